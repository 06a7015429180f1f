/-! The constructors of the class. -/
def c0 : Hp := (fun p k => if p = 3 ∧ k = 4 then -1 else if p = 39 ∧ k = 6 then -1 else 0, fun _ _ => 0, fun p k => if p = 0 ∧ k = 11 then some 55 else if p = 0 ∧ k = 12 then some 78 else none)
def blk (b n : Nat) (ad : Nat → Nat) (cy : Nat → ClassId) : va_W := (List.range n).map (fun j => (ad (b + j), ent ΛC ad cy c0 (b + j)))
theorem arrV_cg {cA : ClassId} {n : Nat} {f g : Nat → Value} (h : ∀ j, j < n → f j = g j) : arrV cA n f = arrV cA n g := by
  unfold arrV
  have e : (fun j : Fin n => f j.val) = (fun j : Fin n => g j.val) := funext fun j => h j.val j.isLt
  rw [e]
section NMORE
variable {x : Nx} {l0 : Launch} {own : String} {cc : ByteArray} {rm : Room} {nL0 : Nat} {cy : Nat → ClassId} {mc0 ms0 : Nat} {post0 : va_W → Prop} {pc : Nat} {L : List (Nat × Value)} {st : List Value} {ws : va_W} {cells slots : Nat}
theorem n_arr {q0 a n : Nat} {cA : ClassId} {f g : Nat → Option Nat} {ws' : va_W} (ha : ws[q0]? = some (a, .inl (cA, n, .inr (.inr (.inr (.inr f)))))) (hfg : ∀ j, j < n → f j = g j) (hw : ws.set q0 (a, .inl (cA, n, .inr (.inr (.inr (.inr g))))) = ws') (k : N x pc L st ws' cells slots) : N x pc L st ws cells slots := by
  subst hw
  obtain ⟨p, l, e, R, s, m, args, below, meth, c, D, cy', A, nL, Q⟩ := x
  intro H locs ls hP hD hS hl
  have hlt := (List.getElem?_eq_some_iff.mp ha).1
  have ev : vp_cell cA (n, .inr (.inr (.inr (.inr g)))) = vp_cell cA (n, .inr (.inr (.inr (.inr f)))) := by
    rw [vp_cell_q, vp_cell_q]
    exact arrV_cg (fun j hj => by rw [hfg j hj])
  refine k H locs ls (fun j q hq => ?_) ⟨fun i j u v hu hv huv => ?_, fun j q hq => ?_⟩ hS hl
  · rw [List.getElem?_set] at hq
    by_cases z : q0 = j
    · rw [if_pos z, if_pos hlt] at hq
      cases hq
      show H[a]? = some (vp_cell _ _)
      rw [ev]
      exact hP q0 _ ha
    · rw [if_neg z] at hq
      exact hP j q hq
  · have key : ∀ (i : Nat) (u : Nat × va_E), (ws.set q0 (a, .inl (cA, n, .inr (.inr (.inr (.inr g))))))[i]? = some u → ∃ u' : Nat × va_E, ws[i]? = some u' ∧ u'.1 = u.1 := fun i u hu => by
      rw [List.getElem?_set] at hu
      by_cases z : q0 = i
      · rw [if_pos z, if_pos hlt] at hu
        cases hu
        exact ⟨(a, .inl (cA, n, .inr (.inr (.inr (.inr f))))), by rw [← z]; exact ha, rfl⟩
      · rw [if_neg z] at hu
        exact ⟨u, hu, rfl⟩
    obtain ⟨u', hu', eu⟩ := key i u hu
    obtain ⟨v', hv', ev'⟩ := key j v hv
    exact hD.1 i j u' v' hu' hv' (by rw [eu, ev', huv])
  · rw [List.getElem?_set] at hq
    by_cases z : q0 = j
    · rw [if_pos z, if_pos hlt] at hq
      cases hq
      have hA := hD.2 q0 _ ha
      exact hA
    · rw [if_neg z] at hq
      exact hD.2 j q hq
theorem n_perm (is : List Nat) {ws' : va_W} (hn : va_nd is = true) (h1 : is.filterMap (fun i => ws[i]?) = ws') (h2 : is.map (fun i => ws[i]?) = ws'.map some) (k : N x pc L st ws' cells slots) : N x pc L st ws cells slots := by
  obtain ⟨p, l, e, R, s, m, args, below, meth, c, D, cy', A, nL, Q⟩ := x
  intro H locs ls hP hD hS hl
  exact k H locs ls (hP.sub is h1) (hD.sub is hn h2) hS hl
end NMORE
theorem zm_X0 : Cond.instanceMethod yX0_init ∈ wU := wU_mem (List.mem_append_right _ (List.mem_append_left _ (List.mem_of_getElem? (l := tables_1_1) (i := 134) (by decide +kernel)))) (by decide +kernel)
theorem zd_X0 : Cond.code yX0_init cX0_init 1 none ∈ wU := wU_mem (List.mem_append_right _ (List.mem_append_left _ (List.mem_of_getElem? (l := tables_1_1) (i := 135) (by decide +kernel)))) (by decide +kernel)
theorem zo_im : Cond.instanceMethod objectInit ∈ wU := wU_mem (List.mem_append_right _ (List.mem_append_left _ (List.mem_of_getElem? (l := tables_1_1) (i := 28) (by decide +kernel)))) (by decide +kernel)
theorem zo_cd : Cond.code objectInit ⟨#[0xb1]⟩ 1 none ∈ wU := wU_mem (List.mem_append_right _ (List.mem_append_left _ (List.mem_of_getElem? (l := tables_1_1) (i := 29) (by decide +kernel)))) (by decide +kernel)
theorem zo_X0 : Cond.methodLink RX0 3 objectInit ∈ wU := wU_mem (List.mem_append_right _ (List.mem_append_left _ (List.mem_of_getElem? (l := tables_1_1) (i := 136) (by decide +kernel)))) (by decide +kernel)
theorem za_int : Cond.arrayClass (.int) ∈ wU := wU_mem (List.mem_append_right _ (List.mem_append_left _ (List.mem_of_getElem? (l := tables_1_1) (i := 105) (by decide +kernel)))) (by decide +kernel)
theorem zk_X0_9 : Cond.fieldLink RX0 9 (TX0 0).1 (TX0 0).2.1 (TX0 0).2.2.1 ∈ wU := wU_mem (List.mem_append_right _ (List.mem_append_left _ (List.mem_of_getElem? (l := tables_1_1) (i := 137) (by decide +kernel)))) (by decide +kernel)
theorem zf_X0_9 : Fc RX0 9 0 0 (.array .int) := ⟨RX0, TX0, tyX0, rfl, Nat.le_of_ble_eq_true rfl, uw_0, zk_X0_9, tyX0_ok, nmX0, rfl, by decide +kernel⟩
theorem cc_X0 (l : Launch) (h0 : Nat) : CC l yX0_init cX0_init 1 ({ frames := 1, cells := 1, slots := 8, locals := 12 } : Room) 1 8 [(h0, .inr (0, [.null, .int 0, .int 0, .int 0, .int 0, .int 0, .int 0, .int 0, .int 0, .int 0, .int 0]))] [.ref h0] (fun cy w => ∃ q1 : Nat, w = [(h0, .inr (0, [.ref q1, .int 0, .int 0, .int 0, .int 0, .int 0, .int 0, .int 0, .int 0, .int 0, .int 0])), (q1, .inl (cy 1, 8, .inl (fun _ => 0)))]) := by
  refine CC.of RX0 rfl rfl (by decide) (Nat.le_of_ble_eq_true rfl) (fun cy x C => ?_)
  refine n_aload C dX0_init_0 rfl (q := 0) rfl ?_
  refine n_obj C dX0_init_1 zo_X0 zo_im zo_cd (Nat.le_of_ble_eq_true rfl) (Nat.le_of_ble_eq_true rfl) ?_
  refine n_aload C dX0_init_4 rfl (q := 0) rfl ?_
  refine n_bipush (v := 8) C dX0_init_5 (by decide) ?_
  refine n_newa (atype := .int) (ty := .int) (N' := 8) (t0 := 1) (a0 := (8, .inl (fun _ => 0))) (cA0 := cy 1) C dX0_init_7 za_int rfl rfl (fun _ => rfl) (by decide) (by decide) (Nat.le_of_ble_eq_true rfl) (Nat.le_of_ble_eq_true rfl) (Nat.le_of_ble_eq_true rfl) (fun q1 => ?_)
  refine n_put (q0 := 0) (ws' := [(h0, .inr (0, [.ref q1, .int 0, .int 0, .int 0, .int 0, .int 0, .int 0, .int 0, .int 0, .int 0, .int 0])), (q1, .inl (cy 1, 8, .inl (fun _ => 0)))]) C dX0_init_9 zf_X0_9 rfl rfl rfl (Nat.le_of_ble_eq_true rfl) rfl ?_
  exact n_vret C dX0_init_12 rfl rfl ⟨q1, rfl⟩
theorem zm_X8 : Cond.instanceMethod yX8_init ∈ wU := wU_mem (List.mem_append_right _ (List.mem_append_left _ (List.mem_of_getElem? (l := tables_1_1) (i := 33) (by decide +kernel)))) (by decide +kernel)
theorem zd_X8 : Cond.code yX8_init cX8_init 1 none ∈ wU := wU_mem (List.mem_append_right _ (List.mem_append_left _ (List.mem_of_getElem? (l := tables_1_1) (i := 34) (by decide +kernel)))) (by decide +kernel)
theorem zo_X8 : Cond.methodLink RX8 3 objectInit ∈ wU := wU_mem (List.mem_append_right _ (List.mem_append_left _ (List.mem_of_getElem? (l := tables_1_1) (i := 35) (by decide +kernel)))) (by decide +kernel)
theorem za_byte : Cond.arrayClass (.byte) ∈ wU := wU_mem (List.mem_append_right _ (List.mem_append_left _ (List.mem_of_getElem? (l := tables_1_1) (i := 64) (by decide +kernel)))) (by decide +kernel)
theorem zk_X8_9 : Cond.fieldLink RX8 9 (TX8 0).1 (TX8 0).2.1 (TX8 0).2.2.1 ∈ wU := wU_mem (List.mem_append_right _ (List.mem_append_left _ (List.mem_of_getElem? (l := tables_1_1) (i := 36) (by decide +kernel)))) (by decide +kernel)
theorem zf_X8_9 : Fc RX8 9 8 0 (.array .byte) := ⟨RX8, TX8, tyX8, rfl, Nat.le_of_ble_eq_true rfl, uw_8, zk_X8_9, tyX8_ok, nmX8, rfl, by decide +kernel⟩
theorem cc_X8 (l : Launch) (h0 : Nat) : CC l yX8_init cX8_init 1 ({ frames := 1, cells := 1, slots := 700, locals := 12 } : Room) 1 700 [(h0, .inr (8, [.null, .int 0, .int 0, .int 0, .int 0, .int 0, .int 0]))] [.ref h0] (fun cy w => ∃ q1 : Nat, w = [(h0, .inr (8, [.ref q1, .int 0, .int 0, .int 0, .int 0, .int 0, .int 0])), (q1, .inl (cy 0, 700, .inl (fun _ => 0)))]) := by
  refine CC.of RX8 rfl rfl (by decide) (Nat.le_of_ble_eq_true rfl) (fun cy x C => ?_)
  refine n_aload C dX8_init_0 rfl (q := 0) rfl ?_
  refine n_obj C dX8_init_1 zo_X8 zo_im zo_cd (Nat.le_of_ble_eq_true rfl) (Nat.le_of_ble_eq_true rfl) ?_
  refine n_aload C dX8_init_4 rfl (q := 0) rfl ?_
  refine n_sipush (v := 700) C dX8_init_5 (by decide) ?_
  refine n_newa (atype := .byte) (ty := .byte) (N' := 700) (t0 := 0) (a0 := (700, .inl (fun _ => 0))) (cA0 := cy 0) C dX8_init_8 za_byte rfl rfl (fun _ => rfl) (by decide) (by decide) (Nat.le_of_ble_eq_true rfl) (Nat.le_of_ble_eq_true rfl) (Nat.le_of_ble_eq_true rfl) (fun q1 => ?_)
  refine n_put (q0 := 0) (ws' := [(h0, .inr (8, [.ref q1, .int 0, .int 0, .int 0, .int 0, .int 0, .int 0])), (q1, .inl (cy 0, 700, .inl (fun _ => 0)))]) C dX8_init_10 zf_X8_9 rfl rfl rfl (Nat.le_of_ble_eq_true rfl) rfl ?_
  exact n_vret C dX8_init_13 rfl rfl ⟨q1, rfl⟩
theorem zm_X4 : Cond.instanceMethod yX4_init ∈ wU := wU_mem (List.mem_append_right _ (List.mem_append_left _ (List.mem_of_getElem? (l := tables_1_1) (i := 74) (by decide +kernel)))) (by decide +kernel)
theorem zd_X4 : Cond.code yX4_init cX4_init 2 none ∈ wU := wU_mem (List.mem_append_right _ (List.mem_append_left _ (List.mem_of_getElem? (l := tables_1_1) (i := 75) (by decide +kernel)))) (by decide +kernel)
theorem zo_X4 : Cond.methodLink RX4 3 objectInit ∈ wU := wU_mem (List.mem_append_right _ (List.mem_append_left _ (List.mem_of_getElem? (l := tables_1_1) (i := 76) (by decide +kernel)))) (by decide +kernel)
theorem zk_X4_9 : Cond.fieldLink RX4 9 (TX4 1).1 (TX4 1).2.1 (TX4 1).2.2.1 ∈ wU := wU_mem (List.mem_append_right _ (List.mem_append_left _ (List.mem_of_getElem? (l := tables_1_1) (i := 78) (by decide +kernel)))) (by decide +kernel)
theorem zf_X4_9 : Fc RX4 9 4 1 (.array .int) := ⟨RX4, TX4, tyX4, rfl, Nat.le_of_ble_eq_true rfl, uw_4, zk_X4_9, tyX4_ok, nmX4, rfl, by decide +kernel⟩
theorem zk_X4_15 : Cond.fieldLink RX4 15 (TX4 0).1 (TX4 0).2.1 (TX4 0).2.2.1 ∈ wU := wU_mem (List.mem_append_right _ (List.mem_append_left _ (List.mem_of_getElem? (l := tables_1_1) (i := 77) (by decide +kernel)))) (by decide +kernel)
theorem zf_X4_15 : Fc RX4 15 4 0 (.object "LaughDrum$Scanner") := ⟨RX4, TX4, tyX4, rfl, Nat.le_of_ble_eq_true rfl, uw_4, zk_X4_15, tyX4_ok, nmX4, rfl, by decide +kernel⟩
theorem cc_X4 (l : Launch) (h0 g1 : Nat) : CC l yX4_init cX4_init 2 ({ frames := 1, cells := 1, slots := 72, locals := 12 } : Room) 1 72 [(h0, .inr (4, [.null, .null, .null, .int 0, .int 0, .int 0, .int 0, .int 0, .int 0]))] [.ref h0, .ref g1] (fun cy w => ∃ q1 : Nat, w = [(h0, .inr (4, [.ref g1, .ref q1, .null, .int 0, .int 0, .int 0, .int 0, .int 0, .int 0])), (q1, .inl (cy 1, 72, .inl (fun _ => 0)))]) := by
  refine CC.of RX4 rfl rfl (by decide) (Nat.le_of_ble_eq_true rfl) (fun cy x C => ?_)
  refine n_aload C dX4_init_0 rfl (q := 0) rfl ?_
  refine n_obj C dX4_init_1 zo_X4 zo_im zo_cd (Nat.le_of_ble_eq_true rfl) (Nat.le_of_ble_eq_true rfl) ?_
  refine n_aload C dX4_init_4 rfl (q := 0) rfl ?_
  refine n_bipush (v := 72) C dX4_init_5 (by decide) ?_
  refine n_newa (atype := .int) (ty := .int) (N' := 72) (t0 := 1) (a0 := (72, .inl (fun _ => 0))) (cA0 := cy 1) C dX4_init_7 za_int rfl rfl (fun _ => rfl) (by decide) (by decide) (Nat.le_of_ble_eq_true rfl) (Nat.le_of_ble_eq_true rfl) (Nat.le_of_ble_eq_true rfl) (fun q1 => ?_)
  refine n_put (q0 := 0) (ws' := [(h0, .inr (4, [.null, .ref q1, .null, .int 0, .int 0, .int 0, .int 0, .int 0, .int 0])), (q1, .inl (cy 1, 72, .inl (fun _ => 0)))]) C dX4_init_9 zf_X4_9 rfl rfl rfl (Nat.le_of_ble_eq_true rfl) rfl ?_
  refine n_aload C dX4_init_12 rfl (q := 0) rfl ?_
  refine n_aload C dX4_init_13 rfl (q := 1) rfl ?_
  refine n_put (q0 := 0) (ws' := [(h0, .inr (4, [.ref g1, .ref q1, .null, .int 0, .int 0, .int 0, .int 0, .int 0, .int 0])), (q1, .inl (cy 1, 72, .inl (fun _ => 0)))]) C dX4_init_14 zf_X4_15 rfl rfl rfl (Nat.le_of_ble_eq_true rfl) rfl ?_
  exact n_vret C dX4_init_17 rfl rfl ⟨q1, rfl⟩
theorem zm_X7 : Cond.instanceMethod yX7_init ∈ wU := wU_mem (List.mem_append_right _ (List.mem_append_left _ (List.mem_of_getElem? (l := tables_1_1) (i := 68) (by decide +kernel)))) (by decide +kernel)
theorem zd_X7 : Cond.code yX7_init cX7_init 2 none ∈ wU := wU_mem (List.mem_append_right _ (List.mem_append_left _ (List.mem_of_getElem? (l := tables_1_1) (i := 69) (by decide +kernel)))) (by decide +kernel)
theorem zo_X7 : Cond.methodLink RX7 3 objectInit ∈ wU := wU_mem (List.mem_append_right _ (List.mem_append_left _ (List.mem_of_getElem? (l := tables_1_1) (i := 70) (by decide +kernel)))) (by decide +kernel)
theorem zk_X7_9 : Cond.fieldLink RX7 9 (TX7 3).1 (TX7 3).2.1 (TX7 3).2.2.1 ∈ wU := wU_mem (List.mem_append_right _ (List.mem_append_left _ (List.mem_of_getElem? (l := tables_1_1) (i := 109) (by decide +kernel)))) (by decide +kernel)
theorem zf_X7_9 : Fc RX7 9 7 3 .int := ⟨RX7, TX7, tyX7, rfl, Nat.le_of_ble_eq_true rfl, uw_7, zk_X7_9, tyX7_ok, nmX7, rfl, by decide +kernel⟩
theorem zk_X7_15 : Cond.fieldLink RX7 15 (TX7 4).1 (TX7 4).2.1 (TX7 4).2.2.1 ∈ wU := wU_mem (List.mem_append_right _ (List.mem_append_left _ (List.mem_of_getElem? (l := tables_1_1) (i := 111) (by decide +kernel)))) (by decide +kernel)
theorem zf_X7_15 : Fc RX7 15 7 4 .int := ⟨RX7, TX7, tyX7, rfl, Nat.le_of_ble_eq_true rfl, uw_7, zk_X7_15, tyX7_ok, nmX7, rfl, by decide +kernel⟩
theorem zk_X7_18 : Cond.fieldLink RX7 18 (TX7 0).1 (TX7 0).2.1 (TX7 0).2.2.1 ∈ wU := wU_mem (List.mem_append_right _ (List.mem_append_left _ (List.mem_of_getElem? (l := tables_1_1) (i := 106) (by decide +kernel)))) (by decide +kernel)
theorem zf_X7_18 : Fc RX7 18 7 0 (.object "LaughDrum$Scanner") := ⟨RX7, TX7, tyX7, rfl, Nat.le_of_ble_eq_true rfl, uw_7, zk_X7_18, tyX7_ok, nmX7, rfl, by decide +kernel⟩
theorem zc_X7_22 : Cond.classLink RX7 22 RX4 ∈ wU := wU_mem (List.mem_append_right _ (List.mem_append_left _ (List.mem_of_getElem? (l := tables_1_1) (i := 71) (by decide +kernel)))) (by decide +kernel)
theorem zi_4 : Cond.instantiable RX4 (nF 4) ∈ wU := wU_mem (List.mem_append_right _ (List.mem_append_left _ (List.mem_of_getElem? (l := tables_1_1) (i := 72) (by decide +kernel)))) (by decide +kernel)
theorem zw_X7_22 : Kw RX7 22 4 [.null, .null, .null, .int 0, .int 0, .int 0, .int 0, .int 0, .int 0] := ⟨RX4, TX4, tyX4, rfl, uw_4, tyX4_ok, zc_X7_22, zi_4, in_X4, fun j hj => by
  have hj : j < 9 := hj
  match j, hj with
  | 0, _ => rfl
  | 1, _ => rfl
  | 2, _ => rfl
  | 3, _ => rfl
  | 4, _ => rfl
  | 5, _ => rfl
  | 6, _ => rfl
  | 7, _ => rfl
  | 8, _ => rfl
  | j + 9, hj => omega⟩
theorem zl_X7_24 : Cond.methodLink RX7 24 yX4_init ∈ wU := wU_mem (List.mem_append_right _ (List.mem_append_left _ (List.mem_of_getElem? (l := tables_1_1) (i := 73) (by decide +kernel)))) (by decide +kernel)
theorem zk_X7_27 : Cond.fieldLink RX7 27 (TX7 1).1 (TX7 1).2.1 (TX7 1).2.2.1 ∈ wU := wU_mem (List.mem_append_right _ (List.mem_append_left _ (List.mem_of_getElem? (l := tables_1_1) (i := 107) (by decide +kernel)))) (by decide +kernel)
theorem zf_X7_27 : Fc RX7 27 7 1 (.object "LaughDrum$LawReader") := ⟨RX7, TX7, tyX7, rfl, Nat.le_of_ble_eq_true rfl, uw_7, zk_X7_27, tyX7_ok, nmX7, rfl, by decide +kernel⟩
theorem cc_X7 (l : Launch) (h0 g1 : Nat) : CC l yX7_init cX7_init 2 ({ frames := 2, cells := 2, slots := 81, locals := 33 } : Room) 2 81 [(h0, .inr (7, [.null, .null, .null, .int 0, .int 0]))] [.ref h0, .ref g1] (fun cy w => ∃ q1 q4 : Nat, w = [(h0, .inr (7, [.ref g1, .ref q1, .null, .int 0, .int (-1)])), (q1, .inr (4, [.ref g1, .ref q4, .null, .int 0, .int 0, .int 0, .int 0, .int 0, .int 0])), (q4, .inl (cy 1, 72, .inl (fun _ => 0)))]) := by
  refine CC.of RX7 rfl rfl (by decide) (Nat.le_of_ble_eq_true rfl) (fun cy x C => ?_)
  refine n_aload C dX7_init_0 rfl (q := 0) rfl ?_
  refine n_obj C dX7_init_1 zo_X7 zo_im zo_cd (Nat.le_of_ble_eq_true rfl) (Nat.le_of_ble_eq_true rfl) ?_
  refine n_aload C dX7_init_4 rfl (q := 0) rfl ?_
  refine n_iconst (v := 0) C dX7_init_5 (by decide) ?_
  refine n_put (q0 := 0) (ws' := [(h0, .inr (7, [.null, .null, .null, .int 0, .int 0]))]) C dX7_init_6 zf_X7_9 rfl rfl rfl (Nat.le_of_ble_eq_true rfl) rfl ?_
  refine n_aload C dX7_init_9 rfl (q := 0) rfl ?_
  refine n_iconst (v := -1) C dX7_init_10 (by decide) ?_
  refine n_put (q0 := 0) (ws' := [(h0, .inr (7, [.null, .null, .null, .int 0, .int (-1)]))]) C dX7_init_11 zf_X7_15 rfl rfl rfl (Nat.le_of_ble_eq_true rfl) rfl ?_
  refine n_aload C dX7_init_14 rfl (q := 0) rfl ?_
  refine n_aload C dX7_init_15 rfl (q := 1) rfl ?_
  refine n_put (q0 := 0) (ws' := [(h0, .inr (7, [.ref g1, .null, .null, .int 0, .int (-1)]))]) C dX7_init_16 zf_X7_18 rfl rfl rfl (Nat.le_of_ble_eq_true rfl) rfl ?_
  refine n_aload C dX7_init_19 rfl (q := 0) rfl ?_
  refine n_new C dX7_init_20 zw_X7_22 (Nat.le_of_ble_eq_true rfl) (Nat.le_of_ble_eq_true rfl) (fun q1 => ?_)
  refine n_dup C dX7_init_23 rfl ?_
  refine n_aload C dX7_init_24 rfl (q := 1) rfl ?_
  refine n_call (As := [.ref g1]) (n := 1) (mc := 1) (ms := 72) C dX7_init_25 zl_X7_24 zm_X4 in_X4 zd_X4 rfl (by decide +kernel) ⟨rfl, rfl⟩ ⟨Nat.le_of_ble_eq_true rfl, Nat.le_of_ble_eq_true rfl⟩ ⟨Nat.le_of_ble_eq_true rfl, Nat.le_of_ble_eq_true rfl⟩ rfl rfl (Nat.le_of_ble_eq_true rfl) (cc_X4 l q1 g1) (fun w2 hw3 => ?_)
  obtain ⟨q4, rfl⟩ := hw3
  refine n_put (q0 := 0) (ws' := [(h0, .inr (7, [.ref g1, .ref q1, .null, .int 0, .int (-1)])), (q1, .inr (4, [.ref g1, .ref q4, .null, .int 0, .int 0, .int 0, .int 0, .int 0, .int 0])), (q4, .inl (cy 1, 72, .inl (fun _ => 0)))]) C dX7_init_28 zf_X7_27 rfl rfl rfl (Nat.le_of_ble_eq_true rfl) rfl ?_
  exact n_vret C dX7_init_31 rfl rfl ⟨q1, q4, rfl⟩
theorem zm_X1 : Cond.instanceMethod yX1_init ∈ wU := wU_mem (List.mem_append_right _ (List.mem_append_left _ (List.mem_of_getElem? (l := tables_1_1) (i := 226) (by decide +kernel)))) (by decide +kernel)
theorem zd_X1 : Cond.code yX1_init cX1_init 1 none ∈ wU := wU_mem (List.mem_append_right _ (List.mem_append_left _ (List.mem_of_getElem? (l := tables_1_1) (i := 227) (by decide +kernel)))) (by decide +kernel)
theorem zo_X1 : Cond.methodLink RX1 3 objectInit ∈ wU := wU_mem (List.mem_append_right _ (List.mem_append_left _ (List.mem_of_getElem? (l := tables_1_1) (i := 228) (by decide +kernel)))) (by decide +kernel)
theorem zk_X1_9 : Cond.fieldLink RX1 9 (TX1 0).1 (TX1 0).2.1 (TX1 0).2.2.1 ∈ wU := wU_mem (List.mem_append_right _ (List.mem_append_left _ (List.mem_of_getElem? (l := tables_1_1) (i := 229) (by decide +kernel)))) (by decide +kernel)
theorem zf_X1_9 : Fc RX1 9 1 0 (.array .int) := ⟨RX1, TX1, tyX1, rfl, Nat.le_of_ble_eq_true rfl, uw_1, zk_X1_9, tyX1_ok, nmX1, rfl, by decide +kernel⟩
theorem zk_X1_15 : Cond.fieldLink RX1 15 (TX1 1).1 (TX1 1).2.1 (TX1 1).2.2.1 ∈ wU := wU_mem (List.mem_append_right _ (List.mem_append_left _ (List.mem_of_getElem? (l := tables_1_1) (i := 230) (by decide +kernel)))) (by decide +kernel)
theorem zf_X1_15 : Fc RX1 15 1 1 (.array .int) := ⟨RX1, TX1, tyX1, rfl, Nat.le_of_ble_eq_true rfl, uw_1, zk_X1_15, tyX1_ok, nmX1, rfl, by decide +kernel⟩
theorem zk_X1_18 : Cond.fieldLink RX1 18 (TX1 2).1 (TX1 2).2.1 (TX1 2).2.2.1 ∈ wU := wU_mem (List.mem_append_right _ (List.mem_append_left _ (List.mem_of_getElem? (l := tables_1_1) (i := 231) (by decide +kernel)))) (by decide +kernel)
theorem zf_X1_18 : Fc RX1 18 1 2 (.array .int) := ⟨RX1, TX1, tyX1, rfl, Nat.le_of_ble_eq_true rfl, uw_1, zk_X1_18, tyX1_ok, nmX1, rfl, by decide +kernel⟩
theorem za_boolean : Cond.arrayClass (.boolean) ∈ wU := wU_mem (List.mem_append_right _ (List.mem_append_right _ (List.mem_append_left _ (List.mem_of_getElem? (l := tables_1_2) (i := 6) (by decide +kernel))))) (by decide +kernel)
theorem zk_X1_21 : Cond.fieldLink RX1 21 (TX1 3).1 (TX1 3).2.1 (TX1 3).2.2.1 ∈ wU := wU_mem (List.mem_append_right _ (List.mem_append_left _ (List.mem_of_getElem? (l := tables_1_1) (i := 232) (by decide +kernel)))) (by decide +kernel)
theorem zf_X1_21 : Fc RX1 21 1 3 (.array .boolean) := ⟨RX1, TX1, tyX1, rfl, Nat.le_of_ble_eq_true rfl, uw_1, zk_X1_21, tyX1_ok, nmX1, rfl, by decide +kernel⟩
theorem cc_X1 (l : Launch) (h0 : Nat) : CC l yX1_init cX1_init 1 ({ frames := 1, cells := 4, slots := 80, locals := 12 } : Room) 4 80 [(h0, .inr (1, [.null, .null, .null, .null, .int 0]))] [.ref h0] (fun cy w => ∃ q1 q2 q3 q4 : Nat, w = [(h0, .inr (1, [.ref q1, .ref q2, .ref q3, .ref q4, .int 0])), (q1, .inl (cy 1, 20, .inl (fun _ => 0))), (q2, .inl (cy 1, 20, .inl (fun _ => 0))), (q3, .inl (cy 1, 20, .inl (fun _ => 0))), (q4, .inl (cy 3, 20, .inl (fun _ => 0)))]) := by
  refine CC.of RX1 rfl rfl (by decide) (Nat.le_of_ble_eq_true rfl) (fun cy x C => ?_)
  refine n_aload C dX1_init_0 rfl (q := 0) rfl ?_
  refine n_obj C dX1_init_1 zo_X1 zo_im zo_cd (Nat.le_of_ble_eq_true rfl) (Nat.le_of_ble_eq_true rfl) ?_
  refine n_aload C dX1_init_4 rfl (q := 0) rfl ?_
  refine n_bipush (v := 20) C dX1_init_5 (by decide) ?_
  refine n_newa (atype := .int) (ty := .int) (N' := 20) (t0 := 1) (a0 := (20, .inl (fun _ => 0))) (cA0 := cy 1) C dX1_init_7 za_int rfl rfl (fun _ => rfl) (by decide) (by decide) (Nat.le_of_ble_eq_true rfl) (Nat.le_of_ble_eq_true rfl) (Nat.le_of_ble_eq_true rfl) (fun q1 => ?_)
  refine n_put (q0 := 0) (ws' := [(h0, .inr (1, [.ref q1, .null, .null, .null, .int 0])), (q1, .inl (cy 1, 20, .inl (fun _ => 0)))]) C dX1_init_9 zf_X1_9 rfl rfl rfl (Nat.le_of_ble_eq_true rfl) rfl ?_
  refine n_aload C dX1_init_12 rfl (q := 0) rfl ?_
  refine n_bipush (v := 20) C dX1_init_13 (by decide) ?_
  refine n_newa (atype := .int) (ty := .int) (N' := 20) (t0 := 1) (a0 := (20, .inl (fun _ => 0))) (cA0 := cy 1) C dX1_init_15 za_int rfl rfl (fun _ => rfl) (by decide) (by decide) (Nat.le_of_ble_eq_true rfl) (Nat.le_of_ble_eq_true rfl) (Nat.le_of_ble_eq_true rfl) (fun q2 => ?_)
  refine n_put (q0 := 0) (ws' := [(h0, .inr (1, [.ref q1, .ref q2, .null, .null, .int 0])), (q1, .inl (cy 1, 20, .inl (fun _ => 0))), (q2, .inl (cy 1, 20, .inl (fun _ => 0)))]) C dX1_init_17 zf_X1_15 rfl rfl rfl (Nat.le_of_ble_eq_true rfl) rfl ?_
  refine n_aload C dX1_init_20 rfl (q := 0) rfl ?_
  refine n_bipush (v := 20) C dX1_init_21 (by decide) ?_
  refine n_newa (atype := .int) (ty := .int) (N' := 20) (t0 := 1) (a0 := (20, .inl (fun _ => 0))) (cA0 := cy 1) C dX1_init_23 za_int rfl rfl (fun _ => rfl) (by decide) (by decide) (Nat.le_of_ble_eq_true rfl) (Nat.le_of_ble_eq_true rfl) (Nat.le_of_ble_eq_true rfl) (fun q3 => ?_)
  refine n_put (q0 := 0) (ws' := [(h0, .inr (1, [.ref q1, .ref q2, .ref q3, .null, .int 0])), (q1, .inl (cy 1, 20, .inl (fun _ => 0))), (q2, .inl (cy 1, 20, .inl (fun _ => 0))), (q3, .inl (cy 1, 20, .inl (fun _ => 0)))]) C dX1_init_25 zf_X1_18 rfl rfl rfl (Nat.le_of_ble_eq_true rfl) rfl ?_
  refine n_aload C dX1_init_28 rfl (q := 0) rfl ?_
  refine n_bipush (v := 20) C dX1_init_29 (by decide) ?_
  refine n_newa (atype := .boolean) (ty := .boolean) (N' := 20) (t0 := 3) (a0 := (20, .inl (fun _ => 0))) (cA0 := cy 3) C dX1_init_31 za_boolean rfl rfl (fun _ => rfl) (by decide) (by decide) (Nat.le_of_ble_eq_true rfl) (Nat.le_of_ble_eq_true rfl) (Nat.le_of_ble_eq_true rfl) (fun q4 => ?_)
  refine n_put (q0 := 0) (ws' := [(h0, .inr (1, [.ref q1, .ref q2, .ref q3, .ref q4, .int 0])), (q1, .inl (cy 1, 20, .inl (fun _ => 0))), (q2, .inl (cy 1, 20, .inl (fun _ => 0))), (q3, .inl (cy 1, 20, .inl (fun _ => 0))), (q4, .inl (cy 3, 20, .inl (fun _ => 0)))]) C dX1_init_33 zf_X1_21 rfl rfl rfl (Nat.le_of_ble_eq_true rfl) rfl ?_
  exact n_vret C dX1_init_36 rfl rfl ⟨q1, q2, q3, q4, rfl⟩
theorem zm_X3 : Cond.instanceMethod yX3_init ∈ wU := wU_mem (List.mem_append_right _ (List.mem_append_right _ (List.mem_append_left _ (List.mem_of_getElem? (l := tables_1_2) (i := 10) (by decide +kernel))))) (by decide +kernel)
theorem zd_X3 : Cond.code yX3_init cX3_init 1 none ∈ wU := wU_mem (List.mem_append_right _ (List.mem_append_right _ (List.mem_append_left _ (List.mem_of_getElem? (l := tables_1_2) (i := 11) (by decide +kernel))))) (by decide +kernel)
theorem zo_X3 : Cond.methodLink RX3 3 objectInit ∈ wU := wU_mem (List.mem_append_right _ (List.mem_append_right _ (List.mem_append_left _ (List.mem_of_getElem? (l := tables_1_2) (i := 12) (by decide +kernel))))) (by decide +kernel)
theorem zk_X3_9 : Cond.fieldLink RX3 9 (TX3 0).1 (TX3 0).2.1 (TX3 0).2.2.1 ∈ wU := wU_mem (List.mem_append_right _ (List.mem_append_right _ (List.mem_append_left _ (List.mem_of_getElem? (l := tables_1_2) (i := 13) (by decide +kernel))))) (by decide +kernel)
theorem zf_X3_9 : Fc RX3 9 3 0 (.array .int) := ⟨RX3, TX3, tyX3, rfl, Nat.le_of_ble_eq_true rfl, uw_3, zk_X3_9, tyX3_ok, nmX3, rfl, by decide +kernel⟩
theorem zk_X3_15 : Cond.fieldLink RX3 15 (TX3 1).1 (TX3 1).2.1 (TX3 1).2.2.1 ∈ wU := wU_mem (List.mem_append_right _ (List.mem_append_right _ (List.mem_append_left _ (List.mem_of_getElem? (l := tables_1_2) (i := 14) (by decide +kernel))))) (by decide +kernel)
theorem zf_X3_15 : Fc RX3 15 3 1 (.array .int) := ⟨RX3, TX3, tyX3, rfl, Nat.le_of_ble_eq_true rfl, uw_3, zk_X3_15, tyX3_ok, nmX3, rfl, by decide +kernel⟩
theorem zk_X3_18 : Cond.fieldLink RX3 18 (TX3 2).1 (TX3 2).2.1 (TX3 2).2.2.1 ∈ wU := wU_mem (List.mem_append_right _ (List.mem_append_right _ (List.mem_append_left _ (List.mem_of_getElem? (l := tables_1_2) (i := 15) (by decide +kernel))))) (by decide +kernel)
theorem zf_X3_18 : Fc RX3 18 3 2 (.array .boolean) := ⟨RX3, TX3, tyX3, rfl, Nat.le_of_ble_eq_true rfl, uw_3, zk_X3_18, tyX3_ok, nmX3, rfl, by decide +kernel⟩
theorem zk_X3_22 : Cond.fieldLink RX3 22 (TX3 3).1 (TX3 3).2.1 (TX3 3).2.2.1 ∈ wU := wU_mem (List.mem_append_right _ (List.mem_append_right _ (List.mem_append_left _ (List.mem_of_getElem? (l := tables_1_2) (i := 16) (by decide +kernel))))) (by decide +kernel)
theorem zf_X3_22 : Fc RX3 22 3 3 (.array .boolean) := ⟨RX3, TX3, tyX3, rfl, Nat.le_of_ble_eq_true rfl, uw_3, zk_X3_22, tyX3_ok, nmX3, rfl, by decide +kernel⟩
theorem zk_X3_25 : Cond.fieldLink RX3 25 (TX3 4).1 (TX3 4).2.1 (TX3 4).2.2.1 ∈ wU := wU_mem (List.mem_append_right _ (List.mem_append_right _ (List.mem_append_left _ (List.mem_of_getElem? (l := tables_1_2) (i := 17) (by decide +kernel))))) (by decide +kernel)
theorem zf_X3_25 : Fc RX3 25 3 4 (.array .boolean) := ⟨RX3, TX3, tyX3, rfl, Nat.le_of_ble_eq_true rfl, uw_3, zk_X3_25, tyX3_ok, nmX3, rfl, by decide +kernel⟩
theorem zk_X3_28 : Cond.fieldLink RX3 28 (TX3 6).1 (TX3 6).2.1 (TX3 6).2.2.1 ∈ wU := wU_mem (List.mem_append_right _ (List.mem_append_right _ (List.mem_append_left _ (List.mem_of_getElem? (l := tables_1_2) (i := 20) (by decide +kernel))))) (by decide +kernel)
theorem zf_X3_28 : Fc RX3 28 3 6 .int := ⟨RX3, TX3, tyX3, rfl, Nat.le_of_ble_eq_true rfl, uw_3, zk_X3_28, tyX3_ok, nmX3, rfl, by decide +kernel⟩
theorem cc_X3 (l : Launch) (h0 : Nat) : CC l yX3_init cX3_init 1 ({ frames := 1, cells := 5, slots := 120, locals := 12 } : Room) 5 120 [(h0, .inr (3, [.null, .null, .null, .null, .null, .int 0, .int 0]))] [.ref h0] (fun cy w => ∃ q1 q2 q3 q4 q5 : Nat, w = [(h0, .inr (3, [.ref q1, .ref q2, .ref q3, .ref q4, .ref q5, .int 0, .int (-1)])), (q1, .inl (cy 1, 24, .inl (fun _ => 0))), (q2, .inl (cy 1, 24, .inl (fun _ => 0))), (q3, .inl (cy 3, 24, .inl (fun _ => 0))), (q4, .inl (cy 3, 24, .inl (fun _ => 0))), (q5, .inl (cy 3, 24, .inl (fun _ => 0)))]) := by
  refine CC.of RX3 rfl rfl (by decide) (Nat.le_of_ble_eq_true rfl) (fun cy x C => ?_)
  refine n_aload C dX3_init_0 rfl (q := 0) rfl ?_
  refine n_obj C dX3_init_1 zo_X3 zo_im zo_cd (Nat.le_of_ble_eq_true rfl) (Nat.le_of_ble_eq_true rfl) ?_
  refine n_aload C dX3_init_4 rfl (q := 0) rfl ?_
  refine n_bipush (v := 24) C dX3_init_5 (by decide) ?_
  refine n_newa (atype := .int) (ty := .int) (N' := 24) (t0 := 1) (a0 := (24, .inl (fun _ => 0))) (cA0 := cy 1) C dX3_init_7 za_int rfl rfl (fun _ => rfl) (by decide) (by decide) (Nat.le_of_ble_eq_true rfl) (Nat.le_of_ble_eq_true rfl) (Nat.le_of_ble_eq_true rfl) (fun q1 => ?_)
  refine n_put (q0 := 0) (ws' := [(h0, .inr (3, [.ref q1, .null, .null, .null, .null, .int 0, .int 0])), (q1, .inl (cy 1, 24, .inl (fun _ => 0)))]) C dX3_init_9 zf_X3_9 rfl rfl rfl (Nat.le_of_ble_eq_true rfl) rfl ?_
  refine n_aload C dX3_init_12 rfl (q := 0) rfl ?_
  refine n_bipush (v := 24) C dX3_init_13 (by decide) ?_
  refine n_newa (atype := .int) (ty := .int) (N' := 24) (t0 := 1) (a0 := (24, .inl (fun _ => 0))) (cA0 := cy 1) C dX3_init_15 za_int rfl rfl (fun _ => rfl) (by decide) (by decide) (Nat.le_of_ble_eq_true rfl) (Nat.le_of_ble_eq_true rfl) (Nat.le_of_ble_eq_true rfl) (fun q2 => ?_)
  refine n_put (q0 := 0) (ws' := [(h0, .inr (3, [.ref q1, .ref q2, .null, .null, .null, .int 0, .int 0])), (q1, .inl (cy 1, 24, .inl (fun _ => 0))), (q2, .inl (cy 1, 24, .inl (fun _ => 0)))]) C dX3_init_17 zf_X3_15 rfl rfl rfl (Nat.le_of_ble_eq_true rfl) rfl ?_
  refine n_aload C dX3_init_20 rfl (q := 0) rfl ?_
  refine n_bipush (v := 24) C dX3_init_21 (by decide) ?_
  refine n_newa (atype := .boolean) (ty := .boolean) (N' := 24) (t0 := 3) (a0 := (24, .inl (fun _ => 0))) (cA0 := cy 3) C dX3_init_23 za_boolean rfl rfl (fun _ => rfl) (by decide) (by decide) (Nat.le_of_ble_eq_true rfl) (Nat.le_of_ble_eq_true rfl) (Nat.le_of_ble_eq_true rfl) (fun q3 => ?_)
  refine n_put (q0 := 0) (ws' := [(h0, .inr (3, [.ref q1, .ref q2, .ref q3, .null, .null, .int 0, .int 0])), (q1, .inl (cy 1, 24, .inl (fun _ => 0))), (q2, .inl (cy 1, 24, .inl (fun _ => 0))), (q3, .inl (cy 3, 24, .inl (fun _ => 0)))]) C dX3_init_25 zf_X3_18 rfl rfl rfl (Nat.le_of_ble_eq_true rfl) rfl ?_
  refine n_aload C dX3_init_28 rfl (q := 0) rfl ?_
  refine n_bipush (v := 24) C dX3_init_29 (by decide) ?_
  refine n_newa (atype := .boolean) (ty := .boolean) (N' := 24) (t0 := 3) (a0 := (24, .inl (fun _ => 0))) (cA0 := cy 3) C dX3_init_31 za_boolean rfl rfl (fun _ => rfl) (by decide) (by decide) (Nat.le_of_ble_eq_true rfl) (Nat.le_of_ble_eq_true rfl) (Nat.le_of_ble_eq_true rfl) (fun q4 => ?_)
  refine n_put (q0 := 0) (ws' := [(h0, .inr (3, [.ref q1, .ref q2, .ref q3, .ref q4, .null, .int 0, .int 0])), (q1, .inl (cy 1, 24, .inl (fun _ => 0))), (q2, .inl (cy 1, 24, .inl (fun _ => 0))), (q3, .inl (cy 3, 24, .inl (fun _ => 0))), (q4, .inl (cy 3, 24, .inl (fun _ => 0)))]) C dX3_init_33 zf_X3_22 rfl rfl rfl (Nat.le_of_ble_eq_true rfl) rfl ?_
  refine n_aload C dX3_init_36 rfl (q := 0) rfl ?_
  refine n_bipush (v := 24) C dX3_init_37 (by decide) ?_
  refine n_newa (atype := .boolean) (ty := .boolean) (N' := 24) (t0 := 3) (a0 := (24, .inl (fun _ => 0))) (cA0 := cy 3) C dX3_init_39 za_boolean rfl rfl (fun _ => rfl) (by decide) (by decide) (Nat.le_of_ble_eq_true rfl) (Nat.le_of_ble_eq_true rfl) (Nat.le_of_ble_eq_true rfl) (fun q5 => ?_)
  refine n_put (q0 := 0) (ws' := [(h0, .inr (3, [.ref q1, .ref q2, .ref q3, .ref q4, .ref q5, .int 0, .int 0])), (q1, .inl (cy 1, 24, .inl (fun _ => 0))), (q2, .inl (cy 1, 24, .inl (fun _ => 0))), (q3, .inl (cy 3, 24, .inl (fun _ => 0))), (q4, .inl (cy 3, 24, .inl (fun _ => 0))), (q5, .inl (cy 3, 24, .inl (fun _ => 0)))]) C dX3_init_41 zf_X3_25 rfl rfl rfl (Nat.le_of_ble_eq_true rfl) rfl ?_
  refine n_aload C dX3_init_44 rfl (q := 0) rfl ?_
  refine n_iconst (v := -1) C dX3_init_45 (by decide) ?_
  refine n_put (q0 := 0) (ws' := [(h0, .inr (3, [.ref q1, .ref q2, .ref q3, .ref q4, .ref q5, .int 0, .int (-1)])), (q1, .inl (cy 1, 24, .inl (fun _ => 0))), (q2, .inl (cy 1, 24, .inl (fun _ => 0))), (q3, .inl (cy 3, 24, .inl (fun _ => 0))), (q4, .inl (cy 3, 24, .inl (fun _ => 0))), (q5, .inl (cy 3, 24, .inl (fun _ => 0)))]) C dX3_init_46 zf_X3_28 rfl rfl rfl (Nat.le_of_ble_eq_true rfl) rfl ?_
  exact n_vret C dX3_init_49 rfl rfl ⟨q1, q2, q3, q4, q5, rfl⟩
theorem zm_X2 : Cond.instanceMethod yX2_init ∈ wU := wU_mem (List.mem_append_right _ (List.mem_append_right _ (List.mem_append_left _ (List.mem_of_getElem? (l := tables_1_2) (i := 40) (by decide +kernel))))) (by decide +kernel)
theorem zd_X2 : Cond.code yX2_init cX2_init 1 none ∈ wU := wU_mem (List.mem_append_right _ (List.mem_append_right _ (List.mem_append_left _ (List.mem_of_getElem? (l := tables_1_2) (i := 41) (by decide +kernel))))) (by decide +kernel)
theorem zo_X2 : Cond.methodLink RX2 3 objectInit ∈ wU := wU_mem (List.mem_append_right _ (List.mem_append_right _ (List.mem_append_left _ (List.mem_of_getElem? (l := tables_1_2) (i := 42) (by decide +kernel))))) (by decide +kernel)
theorem zk_X2_9 : Cond.fieldLink RX2 9 (TX2 0).1 (TX2 0).2.1 (TX2 0).2.2.1 ∈ wU := wU_mem (List.mem_append_right _ (List.mem_append_right _ (List.mem_append_left _ (List.mem_of_getElem? (l := tables_1_2) (i := 43) (by decide +kernel))))) (by decide +kernel)
theorem zf_X2_9 : Fc RX2 9 2 0 (.array .int) := ⟨RX2, TX2, tyX2, rfl, Nat.le_of_ble_eq_true rfl, uw_2, zk_X2_9, tyX2_ok, nmX2, rfl, by decide +kernel⟩
theorem cc_X2 (l : Launch) (h0 : Nat) : CC l yX2_init cX2_init 1 ({ frames := 1, cells := 1, slots := 48, locals := 12 } : Room) 1 48 [(h0, .inr (2, [.null]))] [.ref h0] (fun cy w => ∃ q1 : Nat, w = [(h0, .inr (2, [.ref q1])), (q1, .inl (cy 1, 48, .inl (fun _ => 0)))]) := by
  refine CC.of RX2 rfl rfl (by decide) (Nat.le_of_ble_eq_true rfl) (fun cy x C => ?_)
  refine n_aload C dX2_init_0 rfl (q := 0) rfl ?_
  refine n_obj C dX2_init_1 zo_X2 zo_im zo_cd (Nat.le_of_ble_eq_true rfl) (Nat.le_of_ble_eq_true rfl) ?_
  refine n_aload C dX2_init_4 rfl (q := 0) rfl ?_
  refine n_bipush (v := 48) C dX2_init_5 (by decide) ?_
  refine n_newa (atype := .int) (ty := .int) (N' := 48) (t0 := 1) (a0 := (48, .inl (fun _ => 0))) (cA0 := cy 1) C dX2_init_7 za_int rfl rfl (fun _ => rfl) (by decide) (by decide) (Nat.le_of_ble_eq_true rfl) (Nat.le_of_ble_eq_true rfl) (Nat.le_of_ble_eq_true rfl) (fun q1 => ?_)
  refine n_put (q0 := 0) (ws' := [(h0, .inr (2, [.ref q1])), (q1, .inl (cy 1, 48, .inl (fun _ => 0)))]) C dX2_init_9 zf_X2_9 rfl rfl rfl (Nat.le_of_ble_eq_true rfl) rfl ?_
  exact n_vret C dX2_init_12 rfl rfl ⟨q1, rfl⟩
theorem zm_X6 : Cond.instanceMethod yX6_init ∈ wU := wU_mem (List.mem_append_right _ (List.mem_append_right _ (List.mem_append_left _ (List.mem_of_getElem? (l := tables_1_2) (i := 50) (by decide +kernel))))) (by decide +kernel)
theorem zd_X6 : Cond.code yX6_init cX6_init 1 none ∈ wU := wU_mem (List.mem_append_right _ (List.mem_append_right _ (List.mem_append_left _ (List.mem_of_getElem? (l := tables_1_2) (i := 51) (by decide +kernel))))) (by decide +kernel)
theorem zo_X6 : Cond.methodLink RX6 3 objectInit ∈ wU := wU_mem (List.mem_append_right _ (List.mem_append_right _ (List.mem_append_left _ (List.mem_of_getElem? (l := tables_1_2) (i := 52) (by decide +kernel))))) (by decide +kernel)
theorem zk_X6_9 : Cond.fieldLink RX6 9 (TX6 0).1 (TX6 0).2.1 (TX6 0).2.2.1 ∈ wU := wU_mem (List.mem_append_right _ (List.mem_append_right _ (List.mem_append_left _ (List.mem_of_getElem? (l := tables_1_2) (i := 53) (by decide +kernel))))) (by decide +kernel)
theorem zf_X6_9 : Fc RX6 9 6 0 (.array .int) := ⟨RX6, TX6, tyX6, rfl, Nat.le_of_ble_eq_true rfl, uw_6, zk_X6_9, tyX6_ok, nmX6, rfl, by decide +kernel⟩
theorem zk_X6_15 : Cond.fieldLink RX6 15 (TX6 1).1 (TX6 1).2.1 (TX6 1).2.2.1 ∈ wU := wU_mem (List.mem_append_right _ (List.mem_append_right _ (List.mem_append_left _ (List.mem_of_getElem? (l := tables_1_2) (i := 54) (by decide +kernel))))) (by decide +kernel)
theorem zf_X6_15 : Fc RX6 15 6 1 (.array .int) := ⟨RX6, TX6, tyX6, rfl, Nat.le_of_ble_eq_true rfl, uw_6, zk_X6_15, tyX6_ok, nmX6, rfl, by decide +kernel⟩
theorem zk_X6_18 : Cond.fieldLink RX6 18 (TX6 2).1 (TX6 2).2.1 (TX6 2).2.2.1 ∈ wU := wU_mem (List.mem_append_right _ (List.mem_append_right _ (List.mem_append_left _ (List.mem_of_getElem? (l := tables_1_2) (i := 55) (by decide +kernel))))) (by decide +kernel)
theorem zf_X6_18 : Fc RX6 18 6 2 (.array .int) := ⟨RX6, TX6, tyX6, rfl, Nat.le_of_ble_eq_true rfl, uw_6, zk_X6_18, tyX6_ok, nmX6, rfl, by decide +kernel⟩
theorem cc_X6 (l : Launch) (h0 : Nat) : CC l yX6_init cX6_init 1 ({ frames := 1, cells := 3, slots := 426, locals := 12 } : Room) 3 426 [(h0, .inr (6, [.null, .null, .null, .int 0]))] [.ref h0] (fun cy w => ∃ q1 q2 q3 : Nat, w = [(h0, .inr (6, [.ref q1, .ref q2, .ref q3, .int 0])), (q1, .inl (cy 1, 384, .inl (fun _ => 0))), (q2, .inl (cy 1, 36, .inl (fun _ => 0))), (q3, .inl (cy 1, 6, .inl (fun _ => 0)))]) := by
  refine CC.of RX6 rfl rfl (by decide) (Nat.le_of_ble_eq_true rfl) (fun cy x C => ?_)
  refine n_aload C dX6_init_0 rfl (q := 0) rfl ?_
  refine n_obj C dX6_init_1 zo_X6 zo_im zo_cd (Nat.le_of_ble_eq_true rfl) (Nat.le_of_ble_eq_true rfl) ?_
  refine n_aload C dX6_init_4 rfl (q := 0) rfl ?_
  refine n_sipush (v := 384) C dX6_init_5 (by decide) ?_
  refine n_newa (atype := .int) (ty := .int) (N' := 384) (t0 := 1) (a0 := (384, .inl (fun _ => 0))) (cA0 := cy 1) C dX6_init_8 za_int rfl rfl (fun _ => rfl) (by decide) (by decide) (Nat.le_of_ble_eq_true rfl) (Nat.le_of_ble_eq_true rfl) (Nat.le_of_ble_eq_true rfl) (fun q1 => ?_)
  refine n_put (q0 := 0) (ws' := [(h0, .inr (6, [.ref q1, .null, .null, .int 0])), (q1, .inl (cy 1, 384, .inl (fun _ => 0)))]) C dX6_init_10 zf_X6_9 rfl rfl rfl (Nat.le_of_ble_eq_true rfl) rfl ?_
  refine n_aload C dX6_init_13 rfl (q := 0) rfl ?_
  refine n_bipush (v := 36) C dX6_init_14 (by decide) ?_
  refine n_newa (atype := .int) (ty := .int) (N' := 36) (t0 := 1) (a0 := (36, .inl (fun _ => 0))) (cA0 := cy 1) C dX6_init_16 za_int rfl rfl (fun _ => rfl) (by decide) (by decide) (Nat.le_of_ble_eq_true rfl) (Nat.le_of_ble_eq_true rfl) (Nat.le_of_ble_eq_true rfl) (fun q2 => ?_)
  refine n_put (q0 := 0) (ws' := [(h0, .inr (6, [.ref q1, .ref q2, .null, .int 0])), (q1, .inl (cy 1, 384, .inl (fun _ => 0))), (q2, .inl (cy 1, 36, .inl (fun _ => 0)))]) C dX6_init_18 zf_X6_15 rfl rfl rfl (Nat.le_of_ble_eq_true rfl) rfl ?_
  refine n_aload C dX6_init_21 rfl (q := 0) rfl ?_
  refine n_bipush (v := 6) C dX6_init_22 (by decide) ?_
  refine n_newa (atype := .int) (ty := .int) (N' := 6) (t0 := 1) (a0 := (6, .inl (fun _ => 0))) (cA0 := cy 1) C dX6_init_24 za_int rfl rfl (fun _ => rfl) (by decide) (by decide) (Nat.le_of_ble_eq_true rfl) (Nat.le_of_ble_eq_true rfl) (Nat.le_of_ble_eq_true rfl) (fun q3 => ?_)
  refine n_put (q0 := 0) (ws' := [(h0, .inr (6, [.ref q1, .ref q2, .ref q3, .int 0])), (q1, .inl (cy 1, 384, .inl (fun _ => 0))), (q2, .inl (cy 1, 36, .inl (fun _ => 0))), (q3, .inl (cy 1, 6, .inl (fun _ => 0)))]) C dX6_init_26 zf_X6_18 rfl rfl rfl (Nat.le_of_ble_eq_true rfl) rfl ?_
  exact n_vret C dX6_init_29 rfl rfl ⟨q1, q2, q3, rfl⟩
theorem zm_X5 : Cond.instanceMethod yX5_init ∈ wU := wU_mem (List.mem_append_right _ (List.mem_append_right _ (List.mem_append_left _ (List.mem_of_getElem? (l := tables_1_2) (i := 80) (by decide +kernel))))) (by decide +kernel)
theorem zd_X5 : Cond.code yX5_init cX5_init 1 none ∈ wU := wU_mem (List.mem_append_right _ (List.mem_append_right _ (List.mem_append_left _ (List.mem_of_getElem? (l := tables_1_2) (i := 81) (by decide +kernel))))) (by decide +kernel)
theorem zo_X5 : Cond.methodLink RX5 3 objectInit ∈ wU := wU_mem (List.mem_append_right _ (List.mem_append_right _ (List.mem_append_left _ (List.mem_of_getElem? (l := tables_1_2) (i := 82) (by decide +kernel))))) (by decide +kernel)
theorem zk_X5_9 : Cond.fieldLink RX5 9 (TX5 0).1 (TX5 0).2.1 (TX5 0).2.2.1 ∈ wU := wU_mem (List.mem_append_right _ (List.mem_append_right _ (List.mem_append_left _ (List.mem_of_getElem? (l := tables_1_2) (i := 83) (by decide +kernel))))) (by decide +kernel)
theorem zf_X5_9 : Fc RX5 9 5 0 (.array .int) := ⟨RX5, TX5, tyX5, rfl, Nat.le_of_ble_eq_true rfl, uw_5, zk_X5_9, tyX5_ok, nmX5, rfl, by decide +kernel⟩
theorem zk_X5_15 : Cond.fieldLink RX5 15 (TX5 1).1 (TX5 1).2.1 (TX5 1).2.2.1 ∈ wU := wU_mem (List.mem_append_right _ (List.mem_append_right _ (List.mem_append_left _ (List.mem_of_getElem? (l := tables_1_2) (i := 84) (by decide +kernel))))) (by decide +kernel)
theorem zf_X5_15 : Fc RX5 15 5 1 (.array .int) := ⟨RX5, TX5, tyX5, rfl, Nat.le_of_ble_eq_true rfl, uw_5, zk_X5_15, tyX5_ok, nmX5, rfl, by decide +kernel⟩
theorem zk_X5_18 : Cond.fieldLink RX5 18 (TX5 2).1 (TX5 2).2.1 (TX5 2).2.2.1 ∈ wU := wU_mem (List.mem_append_right _ (List.mem_append_right _ (List.mem_append_left _ (List.mem_of_getElem? (l := tables_1_2) (i := 85) (by decide +kernel))))) (by decide +kernel)
theorem zf_X5_18 : Fc RX5 18 5 2 (.array .int) := ⟨RX5, TX5, tyX5, rfl, Nat.le_of_ble_eq_true rfl, uw_5, zk_X5_18, tyX5_ok, nmX5, rfl, by decide +kernel⟩
theorem zk_X5_21 : Cond.fieldLink RX5 21 (TX5 3).1 (TX5 3).2.1 (TX5 3).2.2.1 ∈ wU := wU_mem (List.mem_append_right _ (List.mem_append_right _ (List.mem_append_left _ (List.mem_of_getElem? (l := tables_1_2) (i := 87) (by decide +kernel))))) (by decide +kernel)
theorem zf_X5_21 : Fc RX5 21 5 3 (.array .int) := ⟨RX5, TX5, tyX5, rfl, Nat.le_of_ble_eq_true rfl, uw_5, zk_X5_21, tyX5_ok, nmX5, rfl, by decide +kernel⟩
theorem za_long : Cond.arrayClass (.long) ∈ wU := wU_mem (List.mem_append_right _ (List.mem_append_right _ (List.mem_append_left _ (List.mem_of_getElem? (l := tables_1_2) (i := 106) (by decide +kernel))))) (by decide +kernel)
theorem zk_X5_24 : Cond.fieldLink RX5 24 (TX5 4).1 (TX5 4).2.1 (TX5 4).2.2.1 ∈ wU := wU_mem (List.mem_append_right _ (List.mem_append_right _ (List.mem_append_left _ (List.mem_of_getElem? (l := tables_1_2) (i := 89) (by decide +kernel))))) (by decide +kernel)
theorem zf_X5_24 : Fc RX5 24 5 4 (.array .long) := ⟨RX5, TX5, tyX5, rfl, Nat.le_of_ble_eq_true rfl, uw_5, zk_X5_24, tyX5_ok, nmX5, rfl, by decide +kernel⟩
theorem cc_X5 (l : Launch) (h0 : Nat) : CC l yX5_init cX5_init 1 ({ frames := 1, cells := 5, slots := 198, locals := 12 } : Room) 5 198 [(h0, .inr (5, [.null, .null, .null, .null, .null, .int 0]))] [.ref h0] (fun cy w => ∃ q1 q2 q3 q4 q5 : Nat, w = [(h0, .inr (5, [.ref q1, .ref q2, .ref q3, .ref q4, .ref q5, .int 0])), (q1, .inl (cy 1, 64, .inl (fun _ => 0))), (q2, .inl (cy 1, 64, .inl (fun _ => 0))), (q3, .inl (cy 1, 3, .inl (fun _ => 0))), (q4, .inl (cy 1, 3, .inl (fun _ => 0))), (q5, .inl (cy 2, 64, .inr (.inl (fun _ => 0))))]) := by
  refine CC.of RX5 rfl rfl (by decide) (Nat.le_of_ble_eq_true rfl) (fun cy x C => ?_)
  refine n_aload C dX5_init_0 rfl (q := 0) rfl ?_
  refine n_obj C dX5_init_1 zo_X5 zo_im zo_cd (Nat.le_of_ble_eq_true rfl) (Nat.le_of_ble_eq_true rfl) ?_
  refine n_aload C dX5_init_4 rfl (q := 0) rfl ?_
  refine n_bipush (v := 64) C dX5_init_5 (by decide) ?_
  refine n_newa (atype := .int) (ty := .int) (N' := 64) (t0 := 1) (a0 := (64, .inl (fun _ => 0))) (cA0 := cy 1) C dX5_init_7 za_int rfl rfl (fun _ => rfl) (by decide) (by decide) (Nat.le_of_ble_eq_true rfl) (Nat.le_of_ble_eq_true rfl) (Nat.le_of_ble_eq_true rfl) (fun q1 => ?_)
  refine n_put (q0 := 0) (ws' := [(h0, .inr (5, [.ref q1, .null, .null, .null, .null, .int 0])), (q1, .inl (cy 1, 64, .inl (fun _ => 0)))]) C dX5_init_9 zf_X5_9 rfl rfl rfl (Nat.le_of_ble_eq_true rfl) rfl ?_
  refine n_aload C dX5_init_12 rfl (q := 0) rfl ?_
  refine n_bipush (v := 64) C dX5_init_13 (by decide) ?_
  refine n_newa (atype := .int) (ty := .int) (N' := 64) (t0 := 1) (a0 := (64, .inl (fun _ => 0))) (cA0 := cy 1) C dX5_init_15 za_int rfl rfl (fun _ => rfl) (by decide) (by decide) (Nat.le_of_ble_eq_true rfl) (Nat.le_of_ble_eq_true rfl) (Nat.le_of_ble_eq_true rfl) (fun q2 => ?_)
  refine n_put (q0 := 0) (ws' := [(h0, .inr (5, [.ref q1, .ref q2, .null, .null, .null, .int 0])), (q1, .inl (cy 1, 64, .inl (fun _ => 0))), (q2, .inl (cy 1, 64, .inl (fun _ => 0)))]) C dX5_init_17 zf_X5_15 rfl rfl rfl (Nat.le_of_ble_eq_true rfl) rfl ?_
  refine n_aload C dX5_init_20 rfl (q := 0) rfl ?_
  refine n_iconst (v := 3) C dX5_init_21 (by decide) ?_
  refine n_newa (atype := .int) (ty := .int) (N' := 3) (t0 := 1) (a0 := (3, .inl (fun _ => 0))) (cA0 := cy 1) C dX5_init_22 za_int rfl rfl (fun _ => rfl) (by decide) (by decide) (Nat.le_of_ble_eq_true rfl) (Nat.le_of_ble_eq_true rfl) (Nat.le_of_ble_eq_true rfl) (fun q3 => ?_)
  refine n_put (q0 := 0) (ws' := [(h0, .inr (5, [.ref q1, .ref q2, .ref q3, .null, .null, .int 0])), (q1, .inl (cy 1, 64, .inl (fun _ => 0))), (q2, .inl (cy 1, 64, .inl (fun _ => 0))), (q3, .inl (cy 1, 3, .inl (fun _ => 0)))]) C dX5_init_24 zf_X5_18 rfl rfl rfl (Nat.le_of_ble_eq_true rfl) rfl ?_
  refine n_aload C dX5_init_27 rfl (q := 0) rfl ?_
  refine n_iconst (v := 3) C dX5_init_28 (by decide) ?_
  refine n_newa (atype := .int) (ty := .int) (N' := 3) (t0 := 1) (a0 := (3, .inl (fun _ => 0))) (cA0 := cy 1) C dX5_init_29 za_int rfl rfl (fun _ => rfl) (by decide) (by decide) (Nat.le_of_ble_eq_true rfl) (Nat.le_of_ble_eq_true rfl) (Nat.le_of_ble_eq_true rfl) (fun q4 => ?_)
  refine n_put (q0 := 0) (ws' := [(h0, .inr (5, [.ref q1, .ref q2, .ref q3, .ref q4, .null, .int 0])), (q1, .inl (cy 1, 64, .inl (fun _ => 0))), (q2, .inl (cy 1, 64, .inl (fun _ => 0))), (q3, .inl (cy 1, 3, .inl (fun _ => 0))), (q4, .inl (cy 1, 3, .inl (fun _ => 0)))]) C dX5_init_31 zf_X5_21 rfl rfl rfl (Nat.le_of_ble_eq_true rfl) rfl ?_
  refine n_aload C dX5_init_34 rfl (q := 0) rfl ?_
  refine n_bipush (v := 64) C dX5_init_35 (by decide) ?_
  refine n_newa (atype := .long) (ty := .long) (N' := 64) (t0 := 2) (a0 := (64, .inr (.inl (fun _ => 0)))) (cA0 := cy 2) C dX5_init_37 za_long rfl rfl (fun _ => rfl) (by decide) (by decide) (Nat.le_of_ble_eq_true rfl) (Nat.le_of_ble_eq_true rfl) (Nat.le_of_ble_eq_true rfl) (fun q5 => ?_)
  refine n_put (q0 := 0) (ws' := [(h0, .inr (5, [.ref q1, .ref q2, .ref q3, .ref q4, .ref q5, .int 0])), (q1, .inl (cy 1, 64, .inl (fun _ => 0))), (q2, .inl (cy 1, 64, .inl (fun _ => 0))), (q3, .inl (cy 1, 3, .inl (fun _ => 0))), (q4, .inl (cy 1, 3, .inl (fun _ => 0))), (q5, .inl (cy 2, 64, .inr (.inl (fun _ => 0))))]) C dX5_init_39 zf_X5_24 rfl rfl rfl (Nat.le_of_ble_eq_true rfl) rfl ?_
  exact n_vret C dX5_init_42 rfl rfl ⟨q1, q2, q3, q4, q5, rfl⟩
theorem zm_X9 : Cond.instanceMethod yX9_init ∈ wU := wU_mem (List.mem_append_right _ (List.mem_append_left _ (List.mem_of_getElem? (l := tables_1_1) (i := 127) (by decide +kernel)))) (by decide +kernel)
theorem zd_X9 : Cond.code yX9_init cX9_init 2 none ∈ wU := wU_mem (List.mem_append_right _ (List.mem_append_left _ (List.mem_of_getElem? (l := tables_1_1) (i := 128) (by decide +kernel)))) (by decide +kernel)
theorem zo_X9 : Cond.methodLink RX9 3 objectInit ∈ wU := wU_mem (List.mem_append_right _ (List.mem_append_left _ (List.mem_of_getElem? (l := tables_1_1) (i := 129) (by decide +kernel)))) (by decide +kernel)
theorem zc_X9_9 : Cond.classLink RX9 9 RX0 ∈ wU := wU_mem (List.mem_append_right _ (List.mem_append_left _ (List.mem_of_getElem? (l := tables_1_1) (i := 130) (by decide +kernel)))) (by decide +kernel)
theorem zk_X9_11 : Cond.fieldLink RX9 11 (TX9 0).1 (TX9 0).2.1 (TX9 0).2.2.1 ∈ wU := wU_mem (List.mem_append_right _ (List.mem_append_left _ (List.mem_of_getElem? (l := tables_1_1) (i := 198) (by decide +kernel)))) (by decide +kernel)
theorem zf_X9_11 : Fc RX9 11 9 0 (.array (.object "LaughDrum$Box")) := ⟨RX9, TX9, tyX9, rfl, Nat.le_of_ble_eq_true rfl, uw_9, zk_X9_11, tyX9_ok, nmX9, rfl, by decide +kernel⟩
theorem zg_X9_11 : Fl RX9 11 9 0 := ⟨RX9, TX9, rfl, Nat.le_of_ble_eq_true rfl, Nat.le_of_ble_eq_true rfl, uw_9, zk_X9_11⟩
theorem zi_0 : Cond.instantiable RX0 (nF 0) ∈ wU := wU_mem (List.mem_append_right _ (List.mem_append_left _ (List.mem_of_getElem? (l := tables_1_1) (i := 132) (by decide +kernel)))) (by decide +kernel)
theorem zw_X9_9 : Kw RX9 9 0 [.null, .int 0, .int 0, .int 0, .int 0, .int 0, .int 0, .int 0, .int 0, .int 0, .int 0] := ⟨RX0, TX0, tyX0, rfl, uw_0, tyX0_ok, zc_X9_9, zi_0, in_X0, fun j hj => by
  have hj : j < 11 := hj
  match j, hj with
  | 0, _ => rfl
  | 1, _ => rfl
  | 2, _ => rfl
  | 3, _ => rfl
  | 4, _ => rfl
  | 5, _ => rfl
  | 6, _ => rfl
  | 7, _ => rfl
  | 8, _ => rfl
  | 9, _ => rfl
  | 10, _ => rfl
  | j + 11, hj => omega⟩
set_option maxRecDepth 20000 in
set_option maxHeartbeats 4000000 in
theorem cc_X9 (l : Launch) (h0 : Nat) : CC l yX9_init cX9_init 2 ({ frames := 2, cells := 13, slots := 120, locals := 32 } : Room) 13 120 [(h0, .inr (9, [.null, .int 0, .int 0, .int 0, .int 0]))] [.ref h0] (fun cy w => ∃ ad : Nat → Nat, ad 6 = h0 ∧ w = blk 6 14 ad cy) := by
  refine CC.of RX9 rfl rfl (by decide) (Nat.le_of_ble_eq_true rfl) (fun cy x C => ?_)
  refine n_aload C dX9_init_0 rfl (q := 0) rfl ?_
  refine n_obj C dX9_init_1 zo_X9 zo_im zo_cd (Nat.le_of_ble_eq_true rfl) (Nat.le_of_ble_eq_true rfl) ?_
  refine n_aload C dX9_init_4 rfl (q := 0) rfl ?_
  refine n_bipush (v := 6) C dX9_init_5 (by decide) ?_
  refine n_newq (N' := 6) C dX9_init_7 zc_X9_9 (by decide) (by decide) (Nat.le_of_ble_eq_true rfl) (Nat.le_of_ble_eq_true rfl) (Nat.le_of_ble_eq_true rfl) (fun q1 => ?_)
  refine n_put (q0 := 0) (ws' := [(h0, .inr (9, [.ref q1, .int 0, .int 0, .int 0, .int 0])), (q1, .inl (cy 4, 6, .inr (.inr (.inr (.inr (fun _ => none))))))]) C dX9_init_10 zf_X9_11 rfl rfl rfl (Nat.le_of_ble_eq_true rfl) rfl ?_
  refine n_iconst (v := 0) C dX9_init_13 (by decide) ?_
  refine n_istore C dX9_init_14 rfl (by decide) (L' := [(1, .int 0), (0, .ref h0)]) rfl ?_
  refine n_iload C dX9_init_15 rfl (q := 0) rfl ?_
  refine n_bipush (v := 6) C dX9_init_16 (by decide) ?_
  refine n_ge_f (tgt := 40) C dX9_init_18 (by decide) (by decide) ?_
  refine n_aload C dX9_init_21 rfl (q := 1) rfl ?_
  refine n_get (q0 := 0) C dX9_init_22 zg_X9_11 rfl rfl ?_
  refine n_iload C dX9_init_25 rfl (q := 0) rfl ?_
  refine n_new C dX9_init_26 zw_X9_9 (Nat.le_of_ble_eq_true rfl) (Nat.le_of_ble_eq_true rfl) (fun q2 => ?_)
  refine n_dup C dX9_init_29 rfl ?_
  refine n_callN (As := []) (n := 0) (mc := 1) (ms := 8) C dX9_init_30 (by decide +kernel) zm_X0 in_X0 zd_X0 rfl (by decide +kernel) ⟨rfl, rfl⟩ ⟨Nat.le_of_ble_eq_true rfl, Nat.le_of_ble_eq_true rfl⟩ ⟨Nat.le_of_ble_eq_true rfl, Nat.le_of_ble_eq_true rfl⟩ rfl rfl (Nat.le_of_ble_eq_true rfl) (cc_X0 l q2) (fun w3 hw4 => ?_)
  obtain ⟨q5, rfl⟩ := hw4
  refine n_astq (q0 := 1) (qk := 2) (ws' := [(h0, .inr (9, [.ref q1, .int 0, .int 0, .int 0, .int 0])), (q1, .inl (cy 4, 6, .inr (.inr (.inr (.inr (va_up (fun _ => none) 0 (some q2))))))), (q2, .inr (0, [.ref q5, .int 0, .int 0, .int 0, .int 0, .int 0, .int 0, .int 0, .int 0, .int 0, .int 0])), (q5, .inl (cy 1, 8, .inl (fun _ => 0)))]) C dX9_init_33 rfl rfl (by unfold vp_in; decide) rfl ?_
  refine n_iinc (q := 0) (v := 1) C dX9_init_34 rfl (by decide) (by decide) (L' := [(1, .int 1), (0, .ref h0)]) rfl ?_
  refine n_goto (tgt := 15) C dX9_init_37 (by decide) ?_
  refine n_iload C dX9_init_15 rfl (q := 0) rfl ?_
  refine n_bipush (v := 6) C dX9_init_16 (by decide) ?_
  refine n_ge_f (tgt := 40) C dX9_init_18 (by decide) (by decide) ?_
  refine n_aload C dX9_init_21 rfl (q := 1) rfl ?_
  refine n_get (q0 := 0) C dX9_init_22 zg_X9_11 rfl rfl ?_
  refine n_iload C dX9_init_25 rfl (q := 0) rfl ?_
  refine n_new C dX9_init_26 zw_X9_9 (Nat.le_of_ble_eq_true rfl) (Nat.le_of_ble_eq_true rfl) (fun q6 => ?_)
  refine n_dup C dX9_init_29 rfl ?_
  refine n_callN (As := []) (n := 0) (mc := 1) (ms := 8) C dX9_init_30 (by decide +kernel) zm_X0 in_X0 zd_X0 rfl (by decide +kernel) ⟨rfl, rfl⟩ ⟨Nat.le_of_ble_eq_true rfl, Nat.le_of_ble_eq_true rfl⟩ ⟨Nat.le_of_ble_eq_true rfl, Nat.le_of_ble_eq_true rfl⟩ rfl rfl (Nat.le_of_ble_eq_true rfl) (cc_X0 l q6) (fun w7 hw8 => ?_)
  obtain ⟨q9, rfl⟩ := hw8
  refine n_astq (q0 := 1) (qk := 4) (ws' := [(h0, .inr (9, [.ref q1, .int 0, .int 0, .int 0, .int 0])), (q1, .inl (cy 4, 6, .inr (.inr (.inr (.inr (va_up (va_up (fun _ => none) 0 (some q2)) 1 (some q6))))))), (q2, .inr (0, [.ref q5, .int 0, .int 0, .int 0, .int 0, .int 0, .int 0, .int 0, .int 0, .int 0, .int 0])), (q5, .inl (cy 1, 8, .inl (fun _ => 0))), (q6, .inr (0, [.ref q9, .int 0, .int 0, .int 0, .int 0, .int 0, .int 0, .int 0, .int 0, .int 0, .int 0])), (q9, .inl (cy 1, 8, .inl (fun _ => 0)))]) C dX9_init_33 rfl rfl (by unfold vp_in; decide) rfl ?_
  refine n_iinc (q := 0) (v := 2) C dX9_init_34 rfl (by decide) (by decide) (L' := [(1, .int 2), (0, .ref h0)]) rfl ?_
  refine n_goto (tgt := 15) C dX9_init_37 (by decide) ?_
  refine n_iload C dX9_init_15 rfl (q := 0) rfl ?_
  refine n_bipush (v := 6) C dX9_init_16 (by decide) ?_
  refine n_ge_f (tgt := 40) C dX9_init_18 (by decide) (by decide) ?_
  refine n_aload C dX9_init_21 rfl (q := 1) rfl ?_
  refine n_get (q0 := 0) C dX9_init_22 zg_X9_11 rfl rfl ?_
  refine n_iload C dX9_init_25 rfl (q := 0) rfl ?_
  refine n_new C dX9_init_26 zw_X9_9 (Nat.le_of_ble_eq_true rfl) (Nat.le_of_ble_eq_true rfl) (fun q10 => ?_)
  refine n_dup C dX9_init_29 rfl ?_
  refine n_callN (As := []) (n := 0) (mc := 1) (ms := 8) C dX9_init_30 (by decide +kernel) zm_X0 in_X0 zd_X0 rfl (by decide +kernel) ⟨rfl, rfl⟩ ⟨Nat.le_of_ble_eq_true rfl, Nat.le_of_ble_eq_true rfl⟩ ⟨Nat.le_of_ble_eq_true rfl, Nat.le_of_ble_eq_true rfl⟩ rfl rfl (Nat.le_of_ble_eq_true rfl) (cc_X0 l q10) (fun w11 hw12 => ?_)
  obtain ⟨q13, rfl⟩ := hw12
  refine n_astq (q0 := 1) (qk := 6) (ws' := [(h0, .inr (9, [.ref q1, .int 0, .int 0, .int 0, .int 0])), (q1, .inl (cy 4, 6, .inr (.inr (.inr (.inr (va_up (va_up (va_up (fun _ => none) 0 (some q2)) 1 (some q6)) 2 (some q10))))))), (q2, .inr (0, [.ref q5, .int 0, .int 0, .int 0, .int 0, .int 0, .int 0, .int 0, .int 0, .int 0, .int 0])), (q5, .inl (cy 1, 8, .inl (fun _ => 0))), (q6, .inr (0, [.ref q9, .int 0, .int 0, .int 0, .int 0, .int 0, .int 0, .int 0, .int 0, .int 0, .int 0])), (q9, .inl (cy 1, 8, .inl (fun _ => 0))), (q10, .inr (0, [.ref q13, .int 0, .int 0, .int 0, .int 0, .int 0, .int 0, .int 0, .int 0, .int 0, .int 0])), (q13, .inl (cy 1, 8, .inl (fun _ => 0)))]) C dX9_init_33 rfl rfl (by unfold vp_in; decide) rfl ?_
  refine n_iinc (q := 0) (v := 3) C dX9_init_34 rfl (by decide) (by decide) (L' := [(1, .int 3), (0, .ref h0)]) rfl ?_
  refine n_goto (tgt := 15) C dX9_init_37 (by decide) ?_
  refine n_iload C dX9_init_15 rfl (q := 0) rfl ?_
  refine n_bipush (v := 6) C dX9_init_16 (by decide) ?_
  refine n_ge_f (tgt := 40) C dX9_init_18 (by decide) (by decide) ?_
  refine n_aload C dX9_init_21 rfl (q := 1) rfl ?_
  refine n_get (q0 := 0) C dX9_init_22 zg_X9_11 rfl rfl ?_
  refine n_iload C dX9_init_25 rfl (q := 0) rfl ?_
  refine n_new C dX9_init_26 zw_X9_9 (Nat.le_of_ble_eq_true rfl) (Nat.le_of_ble_eq_true rfl) (fun q14 => ?_)
  refine n_dup C dX9_init_29 rfl ?_
  refine n_callN (As := []) (n := 0) (mc := 1) (ms := 8) C dX9_init_30 (by decide +kernel) zm_X0 in_X0 zd_X0 rfl (by decide +kernel) ⟨rfl, rfl⟩ ⟨Nat.le_of_ble_eq_true rfl, Nat.le_of_ble_eq_true rfl⟩ ⟨Nat.le_of_ble_eq_true rfl, Nat.le_of_ble_eq_true rfl⟩ rfl rfl (Nat.le_of_ble_eq_true rfl) (cc_X0 l q14) (fun w15 hw16 => ?_)
  obtain ⟨q17, rfl⟩ := hw16
  refine n_astq (q0 := 1) (qk := 8) (ws' := [(h0, .inr (9, [.ref q1, .int 0, .int 0, .int 0, .int 0])), (q1, .inl (cy 4, 6, .inr (.inr (.inr (.inr (va_up (va_up (va_up (va_up (fun _ => none) 0 (some q2)) 1 (some q6)) 2 (some q10)) 3 (some q14))))))), (q2, .inr (0, [.ref q5, .int 0, .int 0, .int 0, .int 0, .int 0, .int 0, .int 0, .int 0, .int 0, .int 0])), (q5, .inl (cy 1, 8, .inl (fun _ => 0))), (q6, .inr (0, [.ref q9, .int 0, .int 0, .int 0, .int 0, .int 0, .int 0, .int 0, .int 0, .int 0, .int 0])), (q9, .inl (cy 1, 8, .inl (fun _ => 0))), (q10, .inr (0, [.ref q13, .int 0, .int 0, .int 0, .int 0, .int 0, .int 0, .int 0, .int 0, .int 0, .int 0])), (q13, .inl (cy 1, 8, .inl (fun _ => 0))), (q14, .inr (0, [.ref q17, .int 0, .int 0, .int 0, .int 0, .int 0, .int 0, .int 0, .int 0, .int 0, .int 0])), (q17, .inl (cy 1, 8, .inl (fun _ => 0)))]) C dX9_init_33 rfl rfl (by unfold vp_in; decide) rfl ?_
  refine n_iinc (q := 0) (v := 4) C dX9_init_34 rfl (by decide) (by decide) (L' := [(1, .int 4), (0, .ref h0)]) rfl ?_
  refine n_goto (tgt := 15) C dX9_init_37 (by decide) ?_
  refine n_iload C dX9_init_15 rfl (q := 0) rfl ?_
  refine n_bipush (v := 6) C dX9_init_16 (by decide) ?_
  refine n_ge_f (tgt := 40) C dX9_init_18 (by decide) (by decide) ?_
  refine n_aload C dX9_init_21 rfl (q := 1) rfl ?_
  refine n_get (q0 := 0) C dX9_init_22 zg_X9_11 rfl rfl ?_
  refine n_iload C dX9_init_25 rfl (q := 0) rfl ?_
  refine n_new C dX9_init_26 zw_X9_9 (Nat.le_of_ble_eq_true rfl) (Nat.le_of_ble_eq_true rfl) (fun q18 => ?_)
  refine n_dup C dX9_init_29 rfl ?_
  refine n_callN (As := []) (n := 0) (mc := 1) (ms := 8) C dX9_init_30 (by decide +kernel) zm_X0 in_X0 zd_X0 rfl (by decide +kernel) ⟨rfl, rfl⟩ ⟨Nat.le_of_ble_eq_true rfl, Nat.le_of_ble_eq_true rfl⟩ ⟨Nat.le_of_ble_eq_true rfl, Nat.le_of_ble_eq_true rfl⟩ rfl rfl (Nat.le_of_ble_eq_true rfl) (cc_X0 l q18) (fun w19 hw20 => ?_)
  obtain ⟨q21, rfl⟩ := hw20
  refine n_astq (q0 := 1) (qk := 10) (ws' := [(h0, .inr (9, [.ref q1, .int 0, .int 0, .int 0, .int 0])), (q1, .inl (cy 4, 6, .inr (.inr (.inr (.inr (va_up (va_up (va_up (va_up (va_up (fun _ => none) 0 (some q2)) 1 (some q6)) 2 (some q10)) 3 (some q14)) 4 (some q18))))))), (q2, .inr (0, [.ref q5, .int 0, .int 0, .int 0, .int 0, .int 0, .int 0, .int 0, .int 0, .int 0, .int 0])), (q5, .inl (cy 1, 8, .inl (fun _ => 0))), (q6, .inr (0, [.ref q9, .int 0, .int 0, .int 0, .int 0, .int 0, .int 0, .int 0, .int 0, .int 0, .int 0])), (q9, .inl (cy 1, 8, .inl (fun _ => 0))), (q10, .inr (0, [.ref q13, .int 0, .int 0, .int 0, .int 0, .int 0, .int 0, .int 0, .int 0, .int 0, .int 0])), (q13, .inl (cy 1, 8, .inl (fun _ => 0))), (q14, .inr (0, [.ref q17, .int 0, .int 0, .int 0, .int 0, .int 0, .int 0, .int 0, .int 0, .int 0, .int 0])), (q17, .inl (cy 1, 8, .inl (fun _ => 0))), (q18, .inr (0, [.ref q21, .int 0, .int 0, .int 0, .int 0, .int 0, .int 0, .int 0, .int 0, .int 0, .int 0])), (q21, .inl (cy 1, 8, .inl (fun _ => 0)))]) C dX9_init_33 rfl rfl (by unfold vp_in; decide) rfl ?_
  refine n_iinc (q := 0) (v := 5) C dX9_init_34 rfl (by decide) (by decide) (L' := [(1, .int 5), (0, .ref h0)]) rfl ?_
  refine n_goto (tgt := 15) C dX9_init_37 (by decide) ?_
  refine n_iload C dX9_init_15 rfl (q := 0) rfl ?_
  refine n_bipush (v := 6) C dX9_init_16 (by decide) ?_
  refine n_ge_f (tgt := 40) C dX9_init_18 (by decide) (by decide) ?_
  refine n_aload C dX9_init_21 rfl (q := 1) rfl ?_
  refine n_get (q0 := 0) C dX9_init_22 zg_X9_11 rfl rfl ?_
  refine n_iload C dX9_init_25 rfl (q := 0) rfl ?_
  refine n_new C dX9_init_26 zw_X9_9 (Nat.le_of_ble_eq_true rfl) (Nat.le_of_ble_eq_true rfl) (fun q22 => ?_)
  refine n_dup C dX9_init_29 rfl ?_
  refine n_callN (As := []) (n := 0) (mc := 1) (ms := 8) C dX9_init_30 (by decide +kernel) zm_X0 in_X0 zd_X0 rfl (by decide +kernel) ⟨rfl, rfl⟩ ⟨Nat.le_of_ble_eq_true rfl, Nat.le_of_ble_eq_true rfl⟩ ⟨Nat.le_of_ble_eq_true rfl, Nat.le_of_ble_eq_true rfl⟩ rfl rfl (Nat.le_of_ble_eq_true rfl) (cc_X0 l q22) (fun w23 hw24 => ?_)
  obtain ⟨q25, rfl⟩ := hw24
  refine n_astq (q0 := 1) (qk := 12) (ws' := [(h0, .inr (9, [.ref q1, .int 0, .int 0, .int 0, .int 0])), (q1, .inl (cy 4, 6, .inr (.inr (.inr (.inr (va_up (va_up (va_up (va_up (va_up (va_up (fun _ => none) 0 (some q2)) 1 (some q6)) 2 (some q10)) 3 (some q14)) 4 (some q18)) 5 (some q22))))))), (q2, .inr (0, [.ref q5, .int 0, .int 0, .int 0, .int 0, .int 0, .int 0, .int 0, .int 0, .int 0, .int 0])), (q5, .inl (cy 1, 8, .inl (fun _ => 0))), (q6, .inr (0, [.ref q9, .int 0, .int 0, .int 0, .int 0, .int 0, .int 0, .int 0, .int 0, .int 0, .int 0])), (q9, .inl (cy 1, 8, .inl (fun _ => 0))), (q10, .inr (0, [.ref q13, .int 0, .int 0, .int 0, .int 0, .int 0, .int 0, .int 0, .int 0, .int 0, .int 0])), (q13, .inl (cy 1, 8, .inl (fun _ => 0))), (q14, .inr (0, [.ref q17, .int 0, .int 0, .int 0, .int 0, .int 0, .int 0, .int 0, .int 0, .int 0, .int 0])), (q17, .inl (cy 1, 8, .inl (fun _ => 0))), (q18, .inr (0, [.ref q21, .int 0, .int 0, .int 0, .int 0, .int 0, .int 0, .int 0, .int 0, .int 0, .int 0])), (q21, .inl (cy 1, 8, .inl (fun _ => 0))), (q22, .inr (0, [.ref q25, .int 0, .int 0, .int 0, .int 0, .int 0, .int 0, .int 0, .int 0, .int 0, .int 0])), (q25, .inl (cy 1, 8, .inl (fun _ => 0)))]) C dX9_init_33 rfl rfl (by unfold vp_in; decide) rfl ?_
  refine n_iinc (q := 0) (v := 6) C dX9_init_34 rfl (by decide) (by decide) (L' := [(1, .int 6), (0, .ref h0)]) rfl ?_
  refine n_goto (tgt := 15) C dX9_init_37 (by decide) ?_
  refine n_iload C dX9_init_15 rfl (q := 0) rfl ?_
  refine n_bipush (v := 6) C dX9_init_16 (by decide) ?_
  refine n_ge_t (tgt := 40) C dX9_init_18 (by decide) (by decide) ?_
  refine n_arr (q0 := 1) (ws' := [(h0, .inr (9, [.ref q1, .int 0, .int 0, .int 0, .int 0])), (q1, .inl (cy 4, 6, .inr (.inr (.inr (.inr (fun j => some ((fun p => ([h0, q1, q2, q5, q6, q9, q10, q13, q14, q17, q18, q21, q22, q25] : List Nat).getD (p - 6) 0) (6 + 1 + 1 + 2 * j)))))))), (q2, .inr (0, [.ref q5, .int 0, .int 0, .int 0, .int 0, .int 0, .int 0, .int 0, .int 0, .int 0, .int 0])), (q5, .inl (cy 1, 8, .inl (fun _ => 0))), (q6, .inr (0, [.ref q9, .int 0, .int 0, .int 0, .int 0, .int 0, .int 0, .int 0, .int 0, .int 0, .int 0])), (q9, .inl (cy 1, 8, .inl (fun _ => 0))), (q10, .inr (0, [.ref q13, .int 0, .int 0, .int 0, .int 0, .int 0, .int 0, .int 0, .int 0, .int 0, .int 0])), (q13, .inl (cy 1, 8, .inl (fun _ => 0))), (q14, .inr (0, [.ref q17, .int 0, .int 0, .int 0, .int 0, .int 0, .int 0, .int 0, .int 0, .int 0, .int 0])), (q17, .inl (cy 1, 8, .inl (fun _ => 0))), (q18, .inr (0, [.ref q21, .int 0, .int 0, .int 0, .int 0, .int 0, .int 0, .int 0, .int 0, .int 0, .int 0])), (q21, .inl (cy 1, 8, .inl (fun _ => 0))), (q22, .inr (0, [.ref q25, .int 0, .int 0, .int 0, .int 0, .int 0, .int 0, .int 0, .int 0, .int 0, .int 0])), (q25, .inl (cy 1, 8, .inl (fun _ => 0)))]) rfl (fun j hj => by
    match j, hj with
    | 0, _ => rfl
    | 1, _ => rfl
    | 2, _ => rfl
    | 3, _ => rfl
    | 4, _ => rfl
    | 5, _ => rfl
    | j + 6, hj => omega) rfl ?_
  refine n_perm [0, 1, 2, 3, 4, 5, 6, 7, 8, 9, 10, 11, 12, 13] (ws' := blk 6 14 (fun p => ([h0, q1, q2, q5, q6, q9, q10, q13, q14, q17, q18, q21, q22, q25] : List Nat).getD (p - 6) 0) cy) (by decide) rfl rfl ?_
  exact n_vret C dX9_init_40 rfl rfl ⟨(fun p => ([h0, q1, q2, q5, q6, q9, q10, q13, q14, q17, q18, q21, q22, q25] : List Nat).getD (p - 6) 0), rfl, rfl⟩
theorem zm_X10 : Cond.instanceMethod yX10_init ∈ wU := wU_mem (List.mem_append_right _ (List.mem_append_right _ (List.mem_append_left _ (List.mem_of_getElem? (l := tables_1_2) (i := 73) (by decide +kernel))))) (by decide +kernel)
theorem zd_X10 : Cond.code yX10_init cX10_init 2 none ∈ wU := wU_mem (List.mem_append_right _ (List.mem_append_right _ (List.mem_append_left _ (List.mem_of_getElem? (l := tables_1_2) (i := 74) (by decide +kernel))))) (by decide +kernel)
theorem zo_X10 : Cond.methodLink RX10 3 objectInit ∈ wU := wU_mem (List.mem_append_right _ (List.mem_append_right _ (List.mem_append_left _ (List.mem_of_getElem? (l := tables_1_2) (i := 75) (by decide +kernel))))) (by decide +kernel)
theorem zc_X10_9 : Cond.classLink RX10 9 RX0 ∈ wU := wU_mem (List.mem_append_right _ (List.mem_append_right _ (List.mem_append_left _ (List.mem_of_getElem? (l := tables_1_2) (i := 76) (by decide +kernel))))) (by decide +kernel)
theorem zk_X10_11 : Cond.fieldLink RX10 11 (TX10 0).1 (TX10 0).2.1 (TX10 0).2.2.1 ∈ wU := wU_mem (List.mem_append_right _ (List.mem_append_right _ (List.mem_append_left _ (List.mem_of_getElem? (l := tables_1_2) (i := 108) (by decide +kernel))))) (by decide +kernel)
theorem zf_X10_11 : Fc RX10 11 10 0 (.array (.object "LaughDrum$Box")) := ⟨RX10, TX10, tyX10, rfl, Nat.le_of_ble_eq_true rfl, uw_10, zk_X10_11, tyX10_ok, nmX10, rfl, by decide +kernel⟩
theorem zc_X10_17 : Cond.classLink RX10 17 RX5 ∈ wU := wU_mem (List.mem_append_right _ (List.mem_append_right _ (List.mem_append_left _ (List.mem_of_getElem? (l := tables_1_2) (i := 77) (by decide +kernel))))) (by decide +kernel)
theorem zi_5 : Cond.instantiable RX5 (nF 5) ∈ wU := wU_mem (List.mem_append_right _ (List.mem_append_right _ (List.mem_append_left _ (List.mem_of_getElem? (l := tables_1_2) (i := 78) (by decide +kernel))))) (by decide +kernel)
theorem zw_X10_17 : Kw RX10 17 5 [.null, .null, .null, .null, .null, .int 0] := ⟨RX5, TX5, tyX5, rfl, uw_5, tyX5_ok, zc_X10_17, zi_5, in_X5, fun j hj => by
  have hj : j < 6 := hj
  match j, hj with
  | 0, _ => rfl
  | 1, _ => rfl
  | 2, _ => rfl
  | 3, _ => rfl
  | 4, _ => rfl
  | 5, _ => rfl
  | j + 6, hj => omega⟩
theorem zk_X10_20 : Cond.fieldLink RX10 20 (TX10 1).1 (TX10 1).2.1 (TX10 1).2.2.1 ∈ wU := wU_mem (List.mem_append_right _ (List.mem_append_right _ (List.mem_append_left _ (List.mem_of_getElem? (l := tables_1_2) (i := 111) (by decide +kernel))))) (by decide +kernel)
theorem zf_X10_20 : Fc RX10 20 10 1 (.object "LaughDrum$Laws") := ⟨RX10, TX10, tyX10, rfl, Nat.le_of_ble_eq_true rfl, uw_10, zk_X10_20, tyX10_ok, nmX10, rfl, by decide +kernel⟩
theorem zk_X10_24 : Cond.fieldLink RX10 24 (TX10 2).1 (TX10 2).2.1 (TX10 2).2.2.1 ∈ wU := wU_mem (List.mem_append_right _ (List.mem_append_right _ (List.mem_append_left _ (List.mem_of_getElem? (l := tables_1_2) (i := 115) (by decide +kernel))))) (by decide +kernel)
theorem zf_X10_24 : Fc RX10 24 10 2 (.array .int) := ⟨RX10, TX10, tyX10, rfl, Nat.le_of_ble_eq_true rfl, uw_10, zk_X10_24, tyX10_ok, nmX10, rfl, by decide +kernel⟩
theorem zk_X10_28 : Cond.fieldLink RX10 28 (TX10 3).1 (TX10 3).2.1 (TX10 3).2.2.1 ∈ wU := wU_mem (List.mem_append_right _ (List.mem_append_right _ (List.mem_append_left _ (List.mem_of_getElem? (l := tables_1_2) (i := 117) (by decide +kernel))))) (by decide +kernel)
theorem zf_X10_28 : Fc RX10 28 10 3 (.array .int) := ⟨RX10, TX10, tyX10, rfl, Nat.le_of_ble_eq_true rfl, uw_10, zk_X10_28, tyX10_ok, nmX10, rfl, by decide +kernel⟩
theorem zk_X10_31 : Cond.fieldLink RX10 31 (TX10 4).1 (TX10 4).2.1 (TX10 4).2.2.1 ∈ wU := wU_mem (List.mem_append_right _ (List.mem_append_right _ (List.mem_append_left _ (List.mem_of_getElem? (l := tables_1_2) (i := 120) (by decide +kernel))))) (by decide +kernel)
theorem zf_X10_31 : Fc RX10 31 10 4 (.array .int) := ⟨RX10, TX10, tyX10, rfl, Nat.le_of_ble_eq_true rfl, uw_10, zk_X10_31, tyX10_ok, nmX10, rfl, by decide +kernel⟩
theorem zg_X10_11 : Fl RX10 11 10 0 := ⟨RX10, TX10, rfl, Nat.le_of_ble_eq_true rfl, Nat.le_of_ble_eq_true rfl, uw_10, zk_X10_11⟩
theorem zw_X10_9 : Kw RX10 9 0 [.null, .int 0, .int 0, .int 0, .int 0, .int 0, .int 0, .int 0, .int 0, .int 0, .int 0] := ⟨RX0, TX0, tyX0, rfl, uw_0, tyX0_ok, zc_X10_9, zi_0, in_X0, fun j hj => by
  have hj : j < 11 := hj
  match j, hj with
  | 0, _ => rfl
  | 1, _ => rfl
  | 2, _ => rfl
  | 3, _ => rfl
  | 4, _ => rfl
  | 5, _ => rfl
  | 6, _ => rfl
  | 7, _ => rfl
  | 8, _ => rfl
  | 9, _ => rfl
  | 10, _ => rfl
  | j + 11, hj => omega⟩
set_option maxRecDepth 20000 in
set_option maxHeartbeats 4000000 in
theorem cc_X10 (l : Launch) (h0 : Nat) : CC l yX10_init cX10_init 2 ({ frames := 2, cells := 22, slots := 339, locals := 32 } : Room) 22 339 [(h0, .inr (10, [.null, .null, .null, .null, .null, .int 0, .int 0, .int 0, .int 0, .int 0, .int 0, .int 0, .int 0, .int 0]))] [.ref h0] (fun cy w => ∃ ad : Nat → Nat, ad 55 = h0 ∧ w = blk 55 23 ad cy) := by
  refine CC.of RX10 rfl rfl (by decide) (Nat.le_of_ble_eq_true rfl) (fun cy x C => ?_)
  refine n_aload C dX10_init_0 rfl (q := 0) rfl ?_
  refine n_obj C dX10_init_1 zo_X10 zo_im zo_cd (Nat.le_of_ble_eq_true rfl) (Nat.le_of_ble_eq_true rfl) ?_
  refine n_aload C dX10_init_4 rfl (q := 0) rfl ?_
  refine n_bipush (v := 6) C dX10_init_5 (by decide) ?_
  refine n_newq (N' := 6) C dX10_init_7 zc_X10_9 (by decide) (by decide) (Nat.le_of_ble_eq_true rfl) (Nat.le_of_ble_eq_true rfl) (Nat.le_of_ble_eq_true rfl) (fun q1 => ?_)
  refine n_put (q0 := 0) (ws' := [(h0, .inr (10, [.ref q1, .null, .null, .null, .null, .int 0, .int 0, .int 0, .int 0, .int 0, .int 0, .int 0, .int 0, .int 0])), (q1, .inl (cy 4, 6, .inr (.inr (.inr (.inr (fun _ => none))))))]) C dX10_init_10 zf_X10_11 rfl rfl rfl (Nat.le_of_ble_eq_true rfl) rfl ?_
  refine n_aload C dX10_init_13 rfl (q := 0) rfl ?_
  refine n_new C dX10_init_14 zw_X10_17 (Nat.le_of_ble_eq_true rfl) (Nat.le_of_ble_eq_true rfl) (fun q2 => ?_)
  refine n_dup C dX10_init_17 rfl ?_
  refine n_callN (As := []) (n := 0) (mc := 5) (ms := 198) C dX10_init_18 (by decide +kernel) zm_X5 in_X5 zd_X5 rfl (by decide +kernel) ⟨rfl, rfl⟩ ⟨Nat.le_of_ble_eq_true rfl, Nat.le_of_ble_eq_true rfl⟩ ⟨Nat.le_of_ble_eq_true rfl, Nat.le_of_ble_eq_true rfl⟩ rfl rfl (Nat.le_of_ble_eq_true rfl) (cc_X5 l q2) (fun w3 hw4 => ?_)
  obtain ⟨q5, q6, q7, q8, q9, rfl⟩ := hw4
  refine n_put (q0 := 0) (ws' := [(h0, .inr (10, [.ref q1, .ref q2, .null, .null, .null, .int 0, .int 0, .int 0, .int 0, .int 0, .int 0, .int 0, .int 0, .int 0])), (q1, .inl (cy 4, 6, .inr (.inr (.inr (.inr (fun _ => none)))))), (q2, .inr (5, [.ref q5, .ref q6, .ref q7, .ref q8, .ref q9, .int 0])), (q5, .inl (cy 1, 64, .inl (fun _ => 0))), (q6, .inl (cy 1, 64, .inl (fun _ => 0))), (q7, .inl (cy 1, 3, .inl (fun _ => 0))), (q8, .inl (cy 1, 3, .inl (fun _ => 0))), (q9, .inl (cy 2, 64, .inr (.inl (fun _ => 0))))]) C dX10_init_21 zf_X10_20 rfl rfl rfl (Nat.le_of_ble_eq_true rfl) rfl ?_
  refine n_aload C dX10_init_24 rfl (q := 0) rfl ?_
  refine n_iconst (v := 5) C dX10_init_25 (by decide) ?_
  refine n_newa (atype := .int) (ty := .int) (N' := 5) (t0 := 1) (a0 := (5, .inl (fun _ => 0))) (cA0 := cy 1) C dX10_init_26 za_int rfl rfl (fun _ => rfl) (by decide) (by decide) (Nat.le_of_ble_eq_true rfl) (Nat.le_of_ble_eq_true rfl) (Nat.le_of_ble_eq_true rfl) (fun q10 => ?_)
  refine n_put (q0 := 0) (ws' := [(h0, .inr (10, [.ref q1, .ref q2, .ref q10, .null, .null, .int 0, .int 0, .int 0, .int 0, .int 0, .int 0, .int 0, .int 0, .int 0])), (q1, .inl (cy 4, 6, .inr (.inr (.inr (.inr (fun _ => none)))))), (q2, .inr (5, [.ref q5, .ref q6, .ref q7, .ref q8, .ref q9, .int 0])), (q5, .inl (cy 1, 64, .inl (fun _ => 0))), (q6, .inl (cy 1, 64, .inl (fun _ => 0))), (q7, .inl (cy 1, 3, .inl (fun _ => 0))), (q8, .inl (cy 1, 3, .inl (fun _ => 0))), (q9, .inl (cy 2, 64, .inr (.inl (fun _ => 0)))), (q10, .inl (cy 1, 5, .inl (fun _ => 0)))]) C dX10_init_28 zf_X10_24 rfl rfl rfl (Nat.le_of_ble_eq_true rfl) rfl ?_
  refine n_aload C dX10_init_31 rfl (q := 0) rfl ?_
  refine n_iconst (v := 5) C dX10_init_32 (by decide) ?_
  refine n_newa (atype := .int) (ty := .int) (N' := 5) (t0 := 1) (a0 := (5, .inl (fun _ => 0))) (cA0 := cy 1) C dX10_init_33 za_int rfl rfl (fun _ => rfl) (by decide) (by decide) (Nat.le_of_ble_eq_true rfl) (Nat.le_of_ble_eq_true rfl) (Nat.le_of_ble_eq_true rfl) (fun q11 => ?_)
  refine n_put (q0 := 0) (ws' := [(h0, .inr (10, [.ref q1, .ref q2, .ref q10, .ref q11, .null, .int 0, .int 0, .int 0, .int 0, .int 0, .int 0, .int 0, .int 0, .int 0])), (q1, .inl (cy 4, 6, .inr (.inr (.inr (.inr (fun _ => none)))))), (q2, .inr (5, [.ref q5, .ref q6, .ref q7, .ref q8, .ref q9, .int 0])), (q5, .inl (cy 1, 64, .inl (fun _ => 0))), (q6, .inl (cy 1, 64, .inl (fun _ => 0))), (q7, .inl (cy 1, 3, .inl (fun _ => 0))), (q8, .inl (cy 1, 3, .inl (fun _ => 0))), (q9, .inl (cy 2, 64, .inr (.inl (fun _ => 0)))), (q10, .inl (cy 1, 5, .inl (fun _ => 0))), (q11, .inl (cy 1, 5, .inl (fun _ => 0)))]) C dX10_init_35 zf_X10_28 rfl rfl rfl (Nat.le_of_ble_eq_true rfl) rfl ?_
  refine n_aload C dX10_init_38 rfl (q := 0) rfl ?_
  refine n_iconst (v := 5) C dX10_init_39 (by decide) ?_
  refine n_newa (atype := .int) (ty := .int) (N' := 5) (t0 := 1) (a0 := (5, .inl (fun _ => 0))) (cA0 := cy 1) C dX10_init_40 za_int rfl rfl (fun _ => rfl) (by decide) (by decide) (Nat.le_of_ble_eq_true rfl) (Nat.le_of_ble_eq_true rfl) (Nat.le_of_ble_eq_true rfl) (fun q12 => ?_)
  refine n_put (q0 := 0) (ws' := [(h0, .inr (10, [.ref q1, .ref q2, .ref q10, .ref q11, .ref q12, .int 0, .int 0, .int 0, .int 0, .int 0, .int 0, .int 0, .int 0, .int 0])), (q1, .inl (cy 4, 6, .inr (.inr (.inr (.inr (fun _ => none)))))), (q2, .inr (5, [.ref q5, .ref q6, .ref q7, .ref q8, .ref q9, .int 0])), (q5, .inl (cy 1, 64, .inl (fun _ => 0))), (q6, .inl (cy 1, 64, .inl (fun _ => 0))), (q7, .inl (cy 1, 3, .inl (fun _ => 0))), (q8, .inl (cy 1, 3, .inl (fun _ => 0))), (q9, .inl (cy 2, 64, .inr (.inl (fun _ => 0)))), (q10, .inl (cy 1, 5, .inl (fun _ => 0))), (q11, .inl (cy 1, 5, .inl (fun _ => 0))), (q12, .inl (cy 1, 5, .inl (fun _ => 0)))]) C dX10_init_42 zf_X10_31 rfl rfl rfl (Nat.le_of_ble_eq_true rfl) rfl ?_
  refine n_iconst (v := 0) C dX10_init_45 (by decide) ?_
  refine n_istore C dX10_init_46 rfl (by decide) (L' := [(1, .int 0), (0, .ref h0)]) rfl ?_
  refine n_iload C dX10_init_47 rfl (q := 0) rfl ?_
  refine n_bipush (v := 6) C dX10_init_48 (by decide) ?_
  refine n_ge_f (tgt := 72) C dX10_init_50 (by decide) (by decide) ?_
  refine n_aload C dX10_init_53 rfl (q := 1) rfl ?_
  refine n_get (q0 := 0) C dX10_init_54 zg_X10_11 rfl rfl ?_
  refine n_iload C dX10_init_57 rfl (q := 0) rfl ?_
  refine n_new C dX10_init_58 zw_X10_9 (Nat.le_of_ble_eq_true rfl) (Nat.le_of_ble_eq_true rfl) (fun q13 => ?_)
  refine n_dup C dX10_init_61 rfl ?_
  refine n_callN (As := []) (n := 0) (mc := 1) (ms := 8) C dX10_init_62 (by decide +kernel) zm_X0 in_X0 zd_X0 rfl (by decide +kernel) ⟨rfl, rfl⟩ ⟨Nat.le_of_ble_eq_true rfl, Nat.le_of_ble_eq_true rfl⟩ ⟨Nat.le_of_ble_eq_true rfl, Nat.le_of_ble_eq_true rfl⟩ rfl rfl (Nat.le_of_ble_eq_true rfl) (cc_X0 l q13) (fun w14 hw15 => ?_)
  obtain ⟨q16, rfl⟩ := hw15
  refine n_astq (q0 := 1) (qk := 11) (ws' := [(h0, .inr (10, [.ref q1, .ref q2, .ref q10, .ref q11, .ref q12, .int 0, .int 0, .int 0, .int 0, .int 0, .int 0, .int 0, .int 0, .int 0])), (q1, .inl (cy 4, 6, .inr (.inr (.inr (.inr (va_up (fun _ => none) 0 (some q13))))))), (q2, .inr (5, [.ref q5, .ref q6, .ref q7, .ref q8, .ref q9, .int 0])), (q5, .inl (cy 1, 64, .inl (fun _ => 0))), (q6, .inl (cy 1, 64, .inl (fun _ => 0))), (q7, .inl (cy 1, 3, .inl (fun _ => 0))), (q8, .inl (cy 1, 3, .inl (fun _ => 0))), (q9, .inl (cy 2, 64, .inr (.inl (fun _ => 0)))), (q10, .inl (cy 1, 5, .inl (fun _ => 0))), (q11, .inl (cy 1, 5, .inl (fun _ => 0))), (q12, .inl (cy 1, 5, .inl (fun _ => 0))), (q13, .inr (0, [.ref q16, .int 0, .int 0, .int 0, .int 0, .int 0, .int 0, .int 0, .int 0, .int 0, .int 0])), (q16, .inl (cy 1, 8, .inl (fun _ => 0)))]) C dX10_init_65 rfl rfl (by unfold vp_in; decide) rfl ?_
  refine n_iinc (q := 0) (v := 1) C dX10_init_66 rfl (by decide) (by decide) (L' := [(1, .int 1), (0, .ref h0)]) rfl ?_
  refine n_goto (tgt := 47) C dX10_init_69 (by decide) ?_
  refine n_iload C dX10_init_47 rfl (q := 0) rfl ?_
  refine n_bipush (v := 6) C dX10_init_48 (by decide) ?_
  refine n_ge_f (tgt := 72) C dX10_init_50 (by decide) (by decide) ?_
  refine n_aload C dX10_init_53 rfl (q := 1) rfl ?_
  refine n_get (q0 := 0) C dX10_init_54 zg_X10_11 rfl rfl ?_
  refine n_iload C dX10_init_57 rfl (q := 0) rfl ?_
  refine n_new C dX10_init_58 zw_X10_9 (Nat.le_of_ble_eq_true rfl) (Nat.le_of_ble_eq_true rfl) (fun q17 => ?_)
  refine n_dup C dX10_init_61 rfl ?_
  refine n_callN (As := []) (n := 0) (mc := 1) (ms := 8) C dX10_init_62 (by decide +kernel) zm_X0 in_X0 zd_X0 rfl (by decide +kernel) ⟨rfl, rfl⟩ ⟨Nat.le_of_ble_eq_true rfl, Nat.le_of_ble_eq_true rfl⟩ ⟨Nat.le_of_ble_eq_true rfl, Nat.le_of_ble_eq_true rfl⟩ rfl rfl (Nat.le_of_ble_eq_true rfl) (cc_X0 l q17) (fun w18 hw19 => ?_)
  obtain ⟨q20, rfl⟩ := hw19
  refine n_astq (q0 := 1) (qk := 13) (ws' := [(h0, .inr (10, [.ref q1, .ref q2, .ref q10, .ref q11, .ref q12, .int 0, .int 0, .int 0, .int 0, .int 0, .int 0, .int 0, .int 0, .int 0])), (q1, .inl (cy 4, 6, .inr (.inr (.inr (.inr (va_up (va_up (fun _ => none) 0 (some q13)) 1 (some q17))))))), (q2, .inr (5, [.ref q5, .ref q6, .ref q7, .ref q8, .ref q9, .int 0])), (q5, .inl (cy 1, 64, .inl (fun _ => 0))), (q6, .inl (cy 1, 64, .inl (fun _ => 0))), (q7, .inl (cy 1, 3, .inl (fun _ => 0))), (q8, .inl (cy 1, 3, .inl (fun _ => 0))), (q9, .inl (cy 2, 64, .inr (.inl (fun _ => 0)))), (q10, .inl (cy 1, 5, .inl (fun _ => 0))), (q11, .inl (cy 1, 5, .inl (fun _ => 0))), (q12, .inl (cy 1, 5, .inl (fun _ => 0))), (q13, .inr (0, [.ref q16, .int 0, .int 0, .int 0, .int 0, .int 0, .int 0, .int 0, .int 0, .int 0, .int 0])), (q16, .inl (cy 1, 8, .inl (fun _ => 0))), (q17, .inr (0, [.ref q20, .int 0, .int 0, .int 0, .int 0, .int 0, .int 0, .int 0, .int 0, .int 0, .int 0])), (q20, .inl (cy 1, 8, .inl (fun _ => 0)))]) C dX10_init_65 rfl rfl (by unfold vp_in; decide) rfl ?_
  refine n_iinc (q := 0) (v := 2) C dX10_init_66 rfl (by decide) (by decide) (L' := [(1, .int 2), (0, .ref h0)]) rfl ?_
  refine n_goto (tgt := 47) C dX10_init_69 (by decide) ?_
  refine n_iload C dX10_init_47 rfl (q := 0) rfl ?_
  refine n_bipush (v := 6) C dX10_init_48 (by decide) ?_
  refine n_ge_f (tgt := 72) C dX10_init_50 (by decide) (by decide) ?_
  refine n_aload C dX10_init_53 rfl (q := 1) rfl ?_
  refine n_get (q0 := 0) C dX10_init_54 zg_X10_11 rfl rfl ?_
  refine n_iload C dX10_init_57 rfl (q := 0) rfl ?_
  refine n_new C dX10_init_58 zw_X10_9 (Nat.le_of_ble_eq_true rfl) (Nat.le_of_ble_eq_true rfl) (fun q21 => ?_)
  refine n_dup C dX10_init_61 rfl ?_
  refine n_callN (As := []) (n := 0) (mc := 1) (ms := 8) C dX10_init_62 (by decide +kernel) zm_X0 in_X0 zd_X0 rfl (by decide +kernel) ⟨rfl, rfl⟩ ⟨Nat.le_of_ble_eq_true rfl, Nat.le_of_ble_eq_true rfl⟩ ⟨Nat.le_of_ble_eq_true rfl, Nat.le_of_ble_eq_true rfl⟩ rfl rfl (Nat.le_of_ble_eq_true rfl) (cc_X0 l q21) (fun w22 hw23 => ?_)
  obtain ⟨q24, rfl⟩ := hw23
  refine n_astq (q0 := 1) (qk := 15) (ws' := [(h0, .inr (10, [.ref q1, .ref q2, .ref q10, .ref q11, .ref q12, .int 0, .int 0, .int 0, .int 0, .int 0, .int 0, .int 0, .int 0, .int 0])), (q1, .inl (cy 4, 6, .inr (.inr (.inr (.inr (va_up (va_up (va_up (fun _ => none) 0 (some q13)) 1 (some q17)) 2 (some q21))))))), (q2, .inr (5, [.ref q5, .ref q6, .ref q7, .ref q8, .ref q9, .int 0])), (q5, .inl (cy 1, 64, .inl (fun _ => 0))), (q6, .inl (cy 1, 64, .inl (fun _ => 0))), (q7, .inl (cy 1, 3, .inl (fun _ => 0))), (q8, .inl (cy 1, 3, .inl (fun _ => 0))), (q9, .inl (cy 2, 64, .inr (.inl (fun _ => 0)))), (q10, .inl (cy 1, 5, .inl (fun _ => 0))), (q11, .inl (cy 1, 5, .inl (fun _ => 0))), (q12, .inl (cy 1, 5, .inl (fun _ => 0))), (q13, .inr (0, [.ref q16, .int 0, .int 0, .int 0, .int 0, .int 0, .int 0, .int 0, .int 0, .int 0, .int 0])), (q16, .inl (cy 1, 8, .inl (fun _ => 0))), (q17, .inr (0, [.ref q20, .int 0, .int 0, .int 0, .int 0, .int 0, .int 0, .int 0, .int 0, .int 0, .int 0])), (q20, .inl (cy 1, 8, .inl (fun _ => 0))), (q21, .inr (0, [.ref q24, .int 0, .int 0, .int 0, .int 0, .int 0, .int 0, .int 0, .int 0, .int 0, .int 0])), (q24, .inl (cy 1, 8, .inl (fun _ => 0)))]) C dX10_init_65 rfl rfl (by unfold vp_in; decide) rfl ?_
  refine n_iinc (q := 0) (v := 3) C dX10_init_66 rfl (by decide) (by decide) (L' := [(1, .int 3), (0, .ref h0)]) rfl ?_
  refine n_goto (tgt := 47) C dX10_init_69 (by decide) ?_
  refine n_iload C dX10_init_47 rfl (q := 0) rfl ?_
  refine n_bipush (v := 6) C dX10_init_48 (by decide) ?_
  refine n_ge_f (tgt := 72) C dX10_init_50 (by decide) (by decide) ?_
  refine n_aload C dX10_init_53 rfl (q := 1) rfl ?_
  refine n_get (q0 := 0) C dX10_init_54 zg_X10_11 rfl rfl ?_
  refine n_iload C dX10_init_57 rfl (q := 0) rfl ?_
  refine n_new C dX10_init_58 zw_X10_9 (Nat.le_of_ble_eq_true rfl) (Nat.le_of_ble_eq_true rfl) (fun q25 => ?_)
  refine n_dup C dX10_init_61 rfl ?_
  refine n_callN (As := []) (n := 0) (mc := 1) (ms := 8) C dX10_init_62 (by decide +kernel) zm_X0 in_X0 zd_X0 rfl (by decide +kernel) ⟨rfl, rfl⟩ ⟨Nat.le_of_ble_eq_true rfl, Nat.le_of_ble_eq_true rfl⟩ ⟨Nat.le_of_ble_eq_true rfl, Nat.le_of_ble_eq_true rfl⟩ rfl rfl (Nat.le_of_ble_eq_true rfl) (cc_X0 l q25) (fun w26 hw27 => ?_)
  obtain ⟨q28, rfl⟩ := hw27
  refine n_astq (q0 := 1) (qk := 17) (ws' := [(h0, .inr (10, [.ref q1, .ref q2, .ref q10, .ref q11, .ref q12, .int 0, .int 0, .int 0, .int 0, .int 0, .int 0, .int 0, .int 0, .int 0])), (q1, .inl (cy 4, 6, .inr (.inr (.inr (.inr (va_up (va_up (va_up (va_up (fun _ => none) 0 (some q13)) 1 (some q17)) 2 (some q21)) 3 (some q25))))))), (q2, .inr (5, [.ref q5, .ref q6, .ref q7, .ref q8, .ref q9, .int 0])), (q5, .inl (cy 1, 64, .inl (fun _ => 0))), (q6, .inl (cy 1, 64, .inl (fun _ => 0))), (q7, .inl (cy 1, 3, .inl (fun _ => 0))), (q8, .inl (cy 1, 3, .inl (fun _ => 0))), (q9, .inl (cy 2, 64, .inr (.inl (fun _ => 0)))), (q10, .inl (cy 1, 5, .inl (fun _ => 0))), (q11, .inl (cy 1, 5, .inl (fun _ => 0))), (q12, .inl (cy 1, 5, .inl (fun _ => 0))), (q13, .inr (0, [.ref q16, .int 0, .int 0, .int 0, .int 0, .int 0, .int 0, .int 0, .int 0, .int 0, .int 0])), (q16, .inl (cy 1, 8, .inl (fun _ => 0))), (q17, .inr (0, [.ref q20, .int 0, .int 0, .int 0, .int 0, .int 0, .int 0, .int 0, .int 0, .int 0, .int 0])), (q20, .inl (cy 1, 8, .inl (fun _ => 0))), (q21, .inr (0, [.ref q24, .int 0, .int 0, .int 0, .int 0, .int 0, .int 0, .int 0, .int 0, .int 0, .int 0])), (q24, .inl (cy 1, 8, .inl (fun _ => 0))), (q25, .inr (0, [.ref q28, .int 0, .int 0, .int 0, .int 0, .int 0, .int 0, .int 0, .int 0, .int 0, .int 0])), (q28, .inl (cy 1, 8, .inl (fun _ => 0)))]) C dX10_init_65 rfl rfl (by unfold vp_in; decide) rfl ?_
  refine n_iinc (q := 0) (v := 4) C dX10_init_66 rfl (by decide) (by decide) (L' := [(1, .int 4), (0, .ref h0)]) rfl ?_
  refine n_goto (tgt := 47) C dX10_init_69 (by decide) ?_
  refine n_iload C dX10_init_47 rfl (q := 0) rfl ?_
  refine n_bipush (v := 6) C dX10_init_48 (by decide) ?_
  refine n_ge_f (tgt := 72) C dX10_init_50 (by decide) (by decide) ?_
  refine n_aload C dX10_init_53 rfl (q := 1) rfl ?_
  refine n_get (q0 := 0) C dX10_init_54 zg_X10_11 rfl rfl ?_
  refine n_iload C dX10_init_57 rfl (q := 0) rfl ?_
  refine n_new C dX10_init_58 zw_X10_9 (Nat.le_of_ble_eq_true rfl) (Nat.le_of_ble_eq_true rfl) (fun q29 => ?_)
  refine n_dup C dX10_init_61 rfl ?_
  refine n_callN (As := []) (n := 0) (mc := 1) (ms := 8) C dX10_init_62 (by decide +kernel) zm_X0 in_X0 zd_X0 rfl (by decide +kernel) ⟨rfl, rfl⟩ ⟨Nat.le_of_ble_eq_true rfl, Nat.le_of_ble_eq_true rfl⟩ ⟨Nat.le_of_ble_eq_true rfl, Nat.le_of_ble_eq_true rfl⟩ rfl rfl (Nat.le_of_ble_eq_true rfl) (cc_X0 l q29) (fun w30 hw31 => ?_)
  obtain ⟨q32, rfl⟩ := hw31
  refine n_astq (q0 := 1) (qk := 19) (ws' := [(h0, .inr (10, [.ref q1, .ref q2, .ref q10, .ref q11, .ref q12, .int 0, .int 0, .int 0, .int 0, .int 0, .int 0, .int 0, .int 0, .int 0])), (q1, .inl (cy 4, 6, .inr (.inr (.inr (.inr (va_up (va_up (va_up (va_up (va_up (fun _ => none) 0 (some q13)) 1 (some q17)) 2 (some q21)) 3 (some q25)) 4 (some q29))))))), (q2, .inr (5, [.ref q5, .ref q6, .ref q7, .ref q8, .ref q9, .int 0])), (q5, .inl (cy 1, 64, .inl (fun _ => 0))), (q6, .inl (cy 1, 64, .inl (fun _ => 0))), (q7, .inl (cy 1, 3, .inl (fun _ => 0))), (q8, .inl (cy 1, 3, .inl (fun _ => 0))), (q9, .inl (cy 2, 64, .inr (.inl (fun _ => 0)))), (q10, .inl (cy 1, 5, .inl (fun _ => 0))), (q11, .inl (cy 1, 5, .inl (fun _ => 0))), (q12, .inl (cy 1, 5, .inl (fun _ => 0))), (q13, .inr (0, [.ref q16, .int 0, .int 0, .int 0, .int 0, .int 0, .int 0, .int 0, .int 0, .int 0, .int 0])), (q16, .inl (cy 1, 8, .inl (fun _ => 0))), (q17, .inr (0, [.ref q20, .int 0, .int 0, .int 0, .int 0, .int 0, .int 0, .int 0, .int 0, .int 0, .int 0])), (q20, .inl (cy 1, 8, .inl (fun _ => 0))), (q21, .inr (0, [.ref q24, .int 0, .int 0, .int 0, .int 0, .int 0, .int 0, .int 0, .int 0, .int 0, .int 0])), (q24, .inl (cy 1, 8, .inl (fun _ => 0))), (q25, .inr (0, [.ref q28, .int 0, .int 0, .int 0, .int 0, .int 0, .int 0, .int 0, .int 0, .int 0, .int 0])), (q28, .inl (cy 1, 8, .inl (fun _ => 0))), (q29, .inr (0, [.ref q32, .int 0, .int 0, .int 0, .int 0, .int 0, .int 0, .int 0, .int 0, .int 0, .int 0])), (q32, .inl (cy 1, 8, .inl (fun _ => 0)))]) C dX10_init_65 rfl rfl (by unfold vp_in; decide) rfl ?_
  refine n_iinc (q := 0) (v := 5) C dX10_init_66 rfl (by decide) (by decide) (L' := [(1, .int 5), (0, .ref h0)]) rfl ?_
  refine n_goto (tgt := 47) C dX10_init_69 (by decide) ?_
  refine n_iload C dX10_init_47 rfl (q := 0) rfl ?_
  refine n_bipush (v := 6) C dX10_init_48 (by decide) ?_
  refine n_ge_f (tgt := 72) C dX10_init_50 (by decide) (by decide) ?_
  refine n_aload C dX10_init_53 rfl (q := 1) rfl ?_
  refine n_get (q0 := 0) C dX10_init_54 zg_X10_11 rfl rfl ?_
  refine n_iload C dX10_init_57 rfl (q := 0) rfl ?_
  refine n_new C dX10_init_58 zw_X10_9 (Nat.le_of_ble_eq_true rfl) (Nat.le_of_ble_eq_true rfl) (fun q33 => ?_)
  refine n_dup C dX10_init_61 rfl ?_
  refine n_callN (As := []) (n := 0) (mc := 1) (ms := 8) C dX10_init_62 (by decide +kernel) zm_X0 in_X0 zd_X0 rfl (by decide +kernel) ⟨rfl, rfl⟩ ⟨Nat.le_of_ble_eq_true rfl, Nat.le_of_ble_eq_true rfl⟩ ⟨Nat.le_of_ble_eq_true rfl, Nat.le_of_ble_eq_true rfl⟩ rfl rfl (Nat.le_of_ble_eq_true rfl) (cc_X0 l q33) (fun w34 hw35 => ?_)
  obtain ⟨q36, rfl⟩ := hw35
  refine n_astq (q0 := 1) (qk := 21) (ws' := [(h0, .inr (10, [.ref q1, .ref q2, .ref q10, .ref q11, .ref q12, .int 0, .int 0, .int 0, .int 0, .int 0, .int 0, .int 0, .int 0, .int 0])), (q1, .inl (cy 4, 6, .inr (.inr (.inr (.inr (va_up (va_up (va_up (va_up (va_up (va_up (fun _ => none) 0 (some q13)) 1 (some q17)) 2 (some q21)) 3 (some q25)) 4 (some q29)) 5 (some q33))))))), (q2, .inr (5, [.ref q5, .ref q6, .ref q7, .ref q8, .ref q9, .int 0])), (q5, .inl (cy 1, 64, .inl (fun _ => 0))), (q6, .inl (cy 1, 64, .inl (fun _ => 0))), (q7, .inl (cy 1, 3, .inl (fun _ => 0))), (q8, .inl (cy 1, 3, .inl (fun _ => 0))), (q9, .inl (cy 2, 64, .inr (.inl (fun _ => 0)))), (q10, .inl (cy 1, 5, .inl (fun _ => 0))), (q11, .inl (cy 1, 5, .inl (fun _ => 0))), (q12, .inl (cy 1, 5, .inl (fun _ => 0))), (q13, .inr (0, [.ref q16, .int 0, .int 0, .int 0, .int 0, .int 0, .int 0, .int 0, .int 0, .int 0, .int 0])), (q16, .inl (cy 1, 8, .inl (fun _ => 0))), (q17, .inr (0, [.ref q20, .int 0, .int 0, .int 0, .int 0, .int 0, .int 0, .int 0, .int 0, .int 0, .int 0])), (q20, .inl (cy 1, 8, .inl (fun _ => 0))), (q21, .inr (0, [.ref q24, .int 0, .int 0, .int 0, .int 0, .int 0, .int 0, .int 0, .int 0, .int 0, .int 0])), (q24, .inl (cy 1, 8, .inl (fun _ => 0))), (q25, .inr (0, [.ref q28, .int 0, .int 0, .int 0, .int 0, .int 0, .int 0, .int 0, .int 0, .int 0, .int 0])), (q28, .inl (cy 1, 8, .inl (fun _ => 0))), (q29, .inr (0, [.ref q32, .int 0, .int 0, .int 0, .int 0, .int 0, .int 0, .int 0, .int 0, .int 0, .int 0])), (q32, .inl (cy 1, 8, .inl (fun _ => 0))), (q33, .inr (0, [.ref q36, .int 0, .int 0, .int 0, .int 0, .int 0, .int 0, .int 0, .int 0, .int 0, .int 0])), (q36, .inl (cy 1, 8, .inl (fun _ => 0)))]) C dX10_init_65 rfl rfl (by unfold vp_in; decide) rfl ?_
  refine n_iinc (q := 0) (v := 6) C dX10_init_66 rfl (by decide) (by decide) (L' := [(1, .int 6), (0, .ref h0)]) rfl ?_
  refine n_goto (tgt := 47) C dX10_init_69 (by decide) ?_
  refine n_iload C dX10_init_47 rfl (q := 0) rfl ?_
  refine n_bipush (v := 6) C dX10_init_48 (by decide) ?_
  refine n_ge_t (tgt := 72) C dX10_init_50 (by decide) (by decide) ?_
  refine n_arr (q0 := 1) (ws' := [(h0, .inr (10, [.ref q1, .ref q2, .ref q10, .ref q11, .ref q12, .int 0, .int 0, .int 0, .int 0, .int 0, .int 0, .int 0, .int 0, .int 0])), (q1, .inl (cy 4, 6, .inr (.inr (.inr (.inr (fun j => some ((fun p => ([h0, q1, q13, q16, q17, q20, q21, q24, q25, q28, q29, q32, q33, q36, q2, q5, q6, q7, q8, q9, q10, q11, q12] : List Nat).getD (p - 55) 0) (55 + 1 + 1 + 2 * j)))))))), (q2, .inr (5, [.ref q5, .ref q6, .ref q7, .ref q8, .ref q9, .int 0])), (q5, .inl (cy 1, 64, .inl (fun _ => 0))), (q6, .inl (cy 1, 64, .inl (fun _ => 0))), (q7, .inl (cy 1, 3, .inl (fun _ => 0))), (q8, .inl (cy 1, 3, .inl (fun _ => 0))), (q9, .inl (cy 2, 64, .inr (.inl (fun _ => 0)))), (q10, .inl (cy 1, 5, .inl (fun _ => 0))), (q11, .inl (cy 1, 5, .inl (fun _ => 0))), (q12, .inl (cy 1, 5, .inl (fun _ => 0))), (q13, .inr (0, [.ref q16, .int 0, .int 0, .int 0, .int 0, .int 0, .int 0, .int 0, .int 0, .int 0, .int 0])), (q16, .inl (cy 1, 8, .inl (fun _ => 0))), (q17, .inr (0, [.ref q20, .int 0, .int 0, .int 0, .int 0, .int 0, .int 0, .int 0, .int 0, .int 0, .int 0])), (q20, .inl (cy 1, 8, .inl (fun _ => 0))), (q21, .inr (0, [.ref q24, .int 0, .int 0, .int 0, .int 0, .int 0, .int 0, .int 0, .int 0, .int 0, .int 0])), (q24, .inl (cy 1, 8, .inl (fun _ => 0))), (q25, .inr (0, [.ref q28, .int 0, .int 0, .int 0, .int 0, .int 0, .int 0, .int 0, .int 0, .int 0, .int 0])), (q28, .inl (cy 1, 8, .inl (fun _ => 0))), (q29, .inr (0, [.ref q32, .int 0, .int 0, .int 0, .int 0, .int 0, .int 0, .int 0, .int 0, .int 0, .int 0])), (q32, .inl (cy 1, 8, .inl (fun _ => 0))), (q33, .inr (0, [.ref q36, .int 0, .int 0, .int 0, .int 0, .int 0, .int 0, .int 0, .int 0, .int 0, .int 0])), (q36, .inl (cy 1, 8, .inl (fun _ => 0)))]) rfl (fun j hj => by
    match j, hj with
    | 0, _ => rfl
    | 1, _ => rfl
    | 2, _ => rfl
    | 3, _ => rfl
    | 4, _ => rfl
    | 5, _ => rfl
    | j + 6, hj => omega) rfl ?_
  refine n_perm [0, 1, 11, 12, 13, 14, 15, 16, 17, 18, 19, 20, 21, 22, 2, 3, 4, 5, 6, 7, 8, 9, 10] (ws' := blk 55 23 (fun p => ([h0, q1, q13, q16, q17, q20, q21, q24, q25, q28, q29, q32, q33, q36, q2, q5, q6, q7, q8, q9, q10, q11, q12] : List Nat).getD (p - 55) 0) cy) (by decide) rfl rfl ?_
  exact n_vret C dX10_init_72 rfl rfl ⟨(fun p => ([h0, q1, q13, q16, q17, q20, q21, q24, q25, q28, q29, q32, q33, q36, q2, q5, q6, q7, q8, q9, q10, q11, q12] : List Nat).getD (p - 55) 0), rfl, rfl⟩
