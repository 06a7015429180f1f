/-! The law's case box. -/
def Cbx (x : Lx) : Prop := match x with
  | (_, _, _, s, _, _, _, _, _, _, _, _, _, bs, _, _) => (Cond.isRef (.static Bundle.tN "UNASSIGNED_STACK" Bundle.steD)).before #[Value.ref bs] s = true ∧ (Cond.isRef (.static Bundle.tN "SUPPRESSED_SENTINEL" Bundle.listD)).before #[Value.ref bs] s = true ∧ (∀ k k', s.vm.findClass nNSE = some k → s.vm.findClass nIOB = some k' → s.vm.assignable k k' = false) ∧ (∃ q1, vk_R RX11 135 "no such box" q1 s) ∧ ∃ q2, vk_R RX11 167 "no such what" q2 s
section CBOX
variable {x : Lx} {pc : Nat} {V : List (Nat × Value)} {st : List Value} {hc hm : Hp} {f f' : Nat → Int64} {cells slots i : Nat}
theorem l_istore {i0 : Nat} {v : Int32} {V' : List (Nat × Value)} (C : Cl x) (d : decode cL_law pc = .ok (.istore i0, 2)) (hi0 : i0 < 7) (hV : (i0, Value.int v) :: V.filter (fun q => !(q.1 == i0) && !(q.1 + 1 == i0 && q.2.category == 2)) = V') (k : LG x (pc + 2) V' st hc hm f cells slots) : LG x pc V (.int v :: st) hc hm f cells slots := by
  obtain ⟨p, l, e, s, m, below, meth, c, D, a, b, o, cy, bs, L, xs⟩ := x
  obtain ⟨hx, hb, hr, hml, hown, hts, hX, hbl, hlk, hK, hZ, hap, hL, hfl⟩ := C
  intro H locs ls hP hQ hO hS hl
  exact lv_istore hx hb d hl hi0 hV (fun ls' hl' => k H locs ls' hP hQ hO hS hl')
theorem l_goto {off : Int} {tgt : Nat} (C : Cl x) (d : decode cL_law pc = .ok (.goto off, 3)) (ht : (pc : Int) + off = (tgt : Int)) (k : LG x tgt V st hc hm f cells slots) : LG x pc V st hc hm f cells slots := by
  obtain ⟨p, l, e, s, m, below, meth, c, D, a, b, o, cy, bs, L, xs⟩ := x
  obtain ⟨hx, hb, hr, hml, hown, hts, hX, hbl, hlk, hK, hZ, hap, hL, hfl⟩ := C
  intro H locs ls hP hQ hO hS hl
  exact lv_goto hx hb d ht (k H locs ls hP hQ hO hS hl)
theorem l_ifne {v : Int32} {off : Int} {tgt : Nat} (C : Cl x) (d : decode cL_law pc = .ok (.ifCond .ne off, 3)) (ht : (pc : Int) + off = (tgt : Int)) (k1 : v ≠ 0 → LG x tgt V st hc hm f cells slots) (k2 : v = 0 → LG x (pc + 3) V st hc hm f cells slots) : LG x pc V (.int v :: st) hc hm f cells slots := by
  obtain ⟨p, l, e, s, m, below, meth, c, D, a, b, o, cy, bs, L, xs⟩ := x
  obtain ⟨hx, hb, hr, hml, hown, hts, hX, hbl, hlk, hK, hZ, hap, hL, hfl⟩ := C
  intro H locs ls hP hQ hO hS hl
  exact lv_if_ne hx hb d ht (fun z => k1 z H locs ls hP hQ hO hS hl) (fun z => k2 z H locs ls hP hQ hO hS hl)
theorem l_i2l {v : Int32} (C : Cl x) (d : decode cL_law pc = .ok (.i2l, 1)) (k : LG x (pc + 1) V (.long v.toInt64 :: st) hc hm f cells slots) : LG x pc V (.int v :: st) hc hm f cells slots := by
  obtain ⟨p, l, e, s, m, below, meth, c, D, a, b, o, cy, bs, L, xs⟩ := x
  obtain ⟨hx, hb, hr, hml, hown, hts, hX, hbl, hlk, hK, hZ, hap, hL, hfl⟩ := C
  intro H locs ls hP hQ hO hS hl
  exact lv_i2l hx hb d rfl (k H locs ls hP hQ hO hS hl)
theorem l_out0 (C : Cl x) (d : decode cL_law pc = .ok (.laload, 1)) (k : LG x (pc + 1) V (.long (f 0) :: st) hc hm f cells slots) : LG x pc V (.int 0 :: .ref (lxO x) :: st) hc hm f cells slots := by
  obtain ⟨p, l, e, s, m, below, meth, c, D, a, b, o, cy, bs, L, xs⟩ := x
  obtain ⟨hx, hb, hr, hml, hown, hts, hX, hbl, hlk, hK, hZ, hap, hL, hfl⟩ := C
  intro H locs ls hP hQ hO hS hl
  exact va_lald (ws := outW cy o f) hx hb hK hO 0 2 (cA := cy 2) (n := 1) (f := f) rfl rfl (show vp_in 0 1 from vp_in_nI (n := 0) (N := 1) (by decide) (by decide)) d (k H locs ls hP hQ hO hS hl)
theorem l_drop {V' : List (Nat × Value)} (hV : ∀ q ∈ V', q ∈ V) (k : LG x pc V' st hc hm f cells slots) : LG x pc V st hc hm f cells slots := by
  obtain ⟨p, l, e, s, m, below, meth, c, D, a, b, o, cy, bs, L, xs⟩ := x
  intro H locs ls hP hQ hO hS hl
  exact k H locs ls hP hQ hO hS ⟨hl.1, hl.2.1, fun q hq => hl.2.2 q (hV q hq)⟩
theorem l_argV {n : Int} {j q0 q4 : Nat} (C : Cl x) (hi : i + 6 ≤ lxL x) (hj : j < 6) (hn : Int32.ofInt n = nI j) (h0 : V[q0]? = some (0, .ref (lxS x))) (h4 : V[q4]? = some (4, .int (nI i))) (d1 : decode cL_law pc = .ok (.aload_n 0, 1)) (d2 : decode cL_law (pc + 1) = .ok (.iload 4, 2)) (d3 : decode cL_law (pc + 1 + 2) = .ok (.iconst n, 1)) (d4 : decode cL_law (pc + 1 + 2 + 1) = .ok (.iadd, 1)) (d5 : decode cL_law (pc + 1 + 2 + 1 + 1) = .ok (.iaload, 1)) (k : LG x (pc + 1 + 2 + 1 + 1 + 1) V (.int (lxX x (i + j)) :: st) hc hm f cells slots) : LG x pc V st hc hm f cells slots := by
  obtain ⟨p, l, e, s, m, below, meth, c, D, a, b, o, cy, bs, L, xs⟩ := x
  obtain ⟨hx, hb, hr, hml, hown, hts, hX, hbl, hlk, hK, hZ, hap, hL, hfl⟩ := C
  have hi : i + 6 ≤ L := hi
  intro H locs ls hP hQ hO hS hl
  refine lv_aload_n hx hb d1 rfl (lv_at hl q0 h0) ?_
  refine lv_iload hx hb d2 (lv_at hl q4 h4) ?_
  refine lv_iconst hx hb d3 hn ?_
  refine lv_iadd hx hb d4 ?_
  rw [nI_add]
  refine va_sld hx hb hX hbl (Nat.not_le.mpr hbl) hS (vp_in_nI (show i + j < L by omega) (by omega)) d5 ?_
  have e1 : (nI (i + j)).toNatClampNeg = i + j := ix_nI (by omega)
  rw [e1]
  exact k H locs ls hP hQ hO hS hl
theorem l_box {y1 y2 r : Int32} (C : Cl x) (B : Cbx x) (hcs : cells + 1 ≤ room_1.cells ∧ slots + 6 ≤ room_1.slots) (hh : (∃ j k, j < 6 ∧ y1 = nI j ∧ bi (nI j) (hc.1 6 1) = 1 ∧ k ≤ 6 ∧ y2 = nI k ∧ r = 0 ∧ f' = vp_updL f 0 (bxV hc (8 + 2 * j) k).toInt64) ∨ (bi y1 (hc.1 6 1) = 0 ∧ r = 1 ∧ f' = f) ∨ (∃ j, j < 6 ∧ y1 = nI j ∧ bi y1 (hc.1 6 1) = 1 ∧ (y2.toInt < 0 ∨ 6 < y2.toInt) ∧ r = 2 ∧ f' = f)) (k : LG x 417 V [.int r] hc hm f' (cells + 1) (slots + 6)) : LG x 414 V [.ref (lxO x), .int y2, .int y1, .ref (lxA x)] hc hm f cells slots := by
  obtain ⟨p, l, e, s, m, below, meth, c, D, a, b, o, cy, bs, L, xs⟩ := x
  obtain ⟨hx, hb, hr, hml, hown, hts, hX, hbl, hlk, hK, hZ, ⟨ha, hbb, ho, ia, ib, ab, ao, bo⟩, hL, hfl⟩ := C
  obtain ⟨i1, i2, hno, ⟨q1, z1⟩, ⟨q2, z2⟩⟩ := B
  intro H locs ls hP hQ hO hS hl
  have hw := wU_all hts
  have hold : ∀ q : Nat, q < s.heap.size → H[q]? = s.heap[q]? := fun q hq => hS.2.1 q hq (Nat.not_le.mpr hq)
  have run := w_static (p := p) (l := l) (e := e) (R := room_1) (R' := rm_lbox) (s := s) (m := m) (args := #[Value.ref bs]) (below := below) (meth := meth) (c := c) (H := H) (locs := locs) (cells := cells) (slots := slots) (pc := 414) (ls := ls) (As := [.ref (a 0), .int y1, .int y2, .ref o]) (rest := []) (Qc := Qb D cy a o hc f' r) (free := LA s) hx hb hml hown (hw _ wl_39) (hw _ ws_box) (hw _ wn_law) (hw _ wc_box) (by decide) (by decide) (fun sig hs => by
      have h1 : (parseMethodDescriptor yL_box.desc).map (fun d => d.parameters.length) = some 4 := by decide +kernel
      rw [hs] at h1
      exact (Option.some.inj h1).symm) hl.1 dL_law_414 (Nat.le_of_ble_eq_true rfl) (Nat.le_of_ble_eq_true rfl) hcs.1 hcs.2 (fun s2 mk methk ck bel hW2 hh2 hn hbk hmlk htk hrk hlkk => by
      have hb3 := lb_body (p := p) (l := l) (e := e) (s := s2) (m := mk) (below := bel) (meth := methk) (c := ck) (D := D) (a := a) (cy := cy) (h := hc) (o := o) (f := f) (A := LA s) (x := y1) (y := y2) (q1 := q1) (q2 := q2) hx hbk hmlk hrk hlkk htk (findClass_of_methodNamed hn) (fun w hw' => word_at hW2 (good_of_word (List.mem_filter.mp hw').2) (hw w hw')) (fun k1 k2 g1 g2 => by
          rw [hW2.alike.findClass] at g1 g2
          rw [hW2.alike.assignable]
          exact hno k1 k2 g1 g2) (va_K.moved hW2.alike hK) ((by rw [hh2]; exact hZ.kept (fun q hq hn => hS.2.1 q hq hn) : Zs (LA s) s s2.heap).moved hW2.alike) (fun q hq => by
          rw [hh2] at hq
          exact Nat.le_trans hS.1 hq) ha ia ho ao (by rw [hh2]; exact hP) (by rw [hh2]; exact hO) hfl (fun A' U hU hUh => th_com hts i1 i2 (State.WarmedH.trans hW2 hU) (fun q hq => by rw [hUh, hh2]; exact hold q hq)) (z1.warm hW2) (z2.warm hW2)
      rcases hh with ⟨j, k, hj, ex, hb1, hk, ey, er, ef⟩ | ⟨hb0, er, ef⟩ | ⟨j, hj, ex, hb1, hy, er, ef⟩
      · rw [er, ef]; exact hb3.1 j k hj ex hb1 hk ey
      · rw [er, ef]; exact hb3.2.1 hb0
      · rw [er, ef]; exact hb3.2.2 j hj ex hb1 hy)
  intro T hT X
  obtain ⟨v, s1, t, T', Lc, h0, X', hLc, e1, e2, ⟨hv, hP1, hO1, hz, hkq⟩, stp⟩ := run T hT X
  rw [h0] at hz hkq
  have hv' : v = some (.int r) := by injection hv
  subst hv'
  have KK := k T'.heap (locs ++ Lc) ls (by rw [e1]; exact hP1) (keep_wd hQ (fun q hq hlt => by
      rw [e1]
      exact hkq _ hlt (bo q hq) (fun p hp e => ab p q hp hq e.symm))) (by rw [e1]; exact hO1) ⟨by rw [e1]; exact Nat.le_trans hS.1 hz, fun q h1 h2 => by
      rw [e1, hkq q (Nat.lt_of_lt_of_le h1 hS.1) (fun e => h2 (by rw [e]; exact ho)) (fun p hp e => h2 (by rw [e]; exact ha p hp))]
      exact hS.2.1 q h1 h2, fun q hq => by
      rcases List.mem_append.mp hq with h | h
      · exact hS.2.2 q h
      · exact hLc q h⟩ hl
  obtain ⟨t2, a1, b1⟩ := KK T' rfl X'
  exact ⟨t2, stp t2 a1, b1⟩
theorem case_box {S : Sp} {t : Nat} (C : Cl x) (B : Cbx x) (hi : i + 6 ≤ lxL x) (hcs : cells + 1 ≤ room_1.cells ∧ slots + 6 ≤ room_1.slots) (R : RR S t hc hm) (Kk : ∀ S t hc' hm' f', RR S t hc' hm' → LG x 1806 (Vs x i) [] hc' hm' f' (cells + 1) (slots + 6)) : LG x 400 (Vs x i) [] hc hm f cells slots := by
  refine l_aload C dL_law_400 rfl (q := 3) rfl ?_
  refine l_arg (j := 1) (n := 1) C hi (by decide) rfl dL_law_401 dL_law_402 dL_law_404 dL_law_405 dL_law_406 ?_
  refine l_arg (j := 2) (n := 2) C hi (by decide) rfl dL_law_407 dL_law_408 dL_law_410 dL_law_411 dL_law_412 ?_
  refine l_aload C dL_law_413 rfl (q := 1) rfl ?_
  -- what both sides do of it
  have key : ∃ (r rm : Int32) (m' : Hp) (f' : Nat → Int64), ((∃ j k, j < 6 ∧ lxX x (i + 1) = nI j ∧ bi (nI j) (hc.1 6 1) = 1 ∧ k ≤ 6 ∧ lxX x (i + 2) = nI k ∧ r = 0 ∧ f' = vp_updL f 0 (bxV hc (8 + 2 * j) k).toInt64) ∨ (bi (lxX x (i + 1)) (hc.1 6 1) = 0 ∧ r = 1 ∧ f' = f) ∨ (∃ j, j < 6 ∧ lxX x (i + 1) = nI j ∧ bi (lxX x (i + 1)) (hc.1 6 1) = 1 ∧ ((lxX x (i + 2)).toInt < 0 ∨ 6 < (lxX x (i + 2)).toInt) ∧ r = 2 ∧ f' = f)) ∧ f12_box (lxX x (i + 1)) (lxX x (i + 2)) hm = some (rm, m') ∧ m'.1 0 2 = r ∧ (r = 0 → f' 0 = rm.toInt64) ∧ RR S t hc m' := by
    rcases box_rel R (lxX x (i + 1)) (lxX x (i + 2)) with ⟨j, k, m', hj, ex, hb1, hk, ey, e1, e2, R'⟩ | ⟨hb0, r, m', e1, e2, R'⟩ | ⟨j, hj, ex, hb1, hy, r, m', e1, e2, R'⟩
    · exact ⟨0, _, m', _, Or.inl ⟨j, k, hj, ex, hb1, hk, ey, rfl, rfl⟩, e1, e2, fun _ => by simp [vp_updL], R'⟩
    · exact ⟨1, _, m', f, Or.inr (Or.inl ⟨hb0, rfl, rfl⟩), e1, e2, fun z => absurd z (by decide), R'⟩
    · exact ⟨2, _, m', f, Or.inr (Or.inr ⟨j, hj, ex, by rw [ex]; exact hb1, hy, rfl, rfl⟩), e1, e2, fun z => absurd z (by decide), R'⟩
  obtain ⟨r, rm, m', f', hh, e1, e2, e3, R'⟩ := key
  have hcs' : cells + 1 ≤ room_1.cells ∧ slots + 6 ≤ room_1.slots := hcs
  refine l_box (r := r) C B hcs hh ?_
  refine l_istore (V' := (5, .int r) :: Vs x i) C dL_law_417 (by decide) rfl ?_
  refine l_aload C dL_law_419 rfl (q := 3) rfl ?_
  refine l_argV (j := 1) (n := 1) (q0 := 5) (q4 := 1) C hi (by decide) rfl rfl rfl dL_law_420 dL_law_421 dL_law_423 dL_law_424 dL_law_425 ?_
  refine l_argV (j := 2) (n := 2) (q0 := 5) (q4 := 1) C hi (by decide) rfl rfl rfl dL_law_426 dL_law_427 dL_law_429 dL_law_430 dL_law_431 ?_
  refine l_callM (As := [.int (lxX x (i + 1)), .int (lxX x (i + 2))]) (n := 2) C dL_law_432 wl_44 yw_f12_box ⟨rfl, rfl⟩ ⟨Nat.le_of_ble_eq_true rfl, Nat.le_of_ble_eq_true rfl⟩ hcs' rfl rfl (fun _ => rfl) (Nat.le_of_ble_eq_true rfl) rfl (ok_f12_box (K := fun z => z = (rm, m')) _ _ hm ⟨_, e1, rfl⟩) (fun _ _ ad hp => pw_int ad hp) (fun r1 h1 hp1 => ?_)
  obtain ⟨v2, rfl, hv2⟩ := hp1
  obtain ⟨rfl, rfl⟩ := Prod.mk.inj hv2
  refine l_st (st' := [.int _]) rfl ?_
  refine l_istore (V' := (6, .int _) :: (5, .int r) :: Vs x i) C dL_law_435 (by decide) rfl ?_
  refine l_aload C dL_law_437 rfl (q := 4) rfl ?_
  refine l_callM (As := []) (n := 0) C dL_law_438 wl_45 yw_f12_thrown ⟨rfl, rfl⟩ ⟨Nat.le_of_ble_eq_true rfl, Nat.le_of_ble_eq_true rfl⟩ hcs' rfl rfl (fun _ => rfl) (Nat.le_of_ble_eq_true rfl) rfl (ok_f12_thrown (K := fun z => z = r) _ ⟨_, by show some _ = some _; rw [e2], rfl⟩) (fun _ _ ad hp => ps_int ad hp) (fun r1 h1 hp1 => ?_)
  obtain ⟨v1, rfl, rfl, rfl⟩ := hp1
  refine l_st (st' := [.int _]) rfl ?_
  refine l_iload (q := 1) C dL_law_441 rfl ?_
  refine l_eq (tgt := 448) C dL_law_443 (by decide) rfl ?_
  refine l_iload (q := 1) C dL_law_448 rfl ?_
  have last : LG x 465 ((6, .int v2) :: (5, .int v1) :: Vs x i) [] hc h1 f' (cells + 1) (slots + 6) := by
    refine l_goto (tgt := 1806) C dL_law_465 (by decide) ?_
    exact l_drop (fun q hq => List.mem_cons_of_mem _ (List.mem_cons_of_mem _ hq)) (Kk _ _ _ _ _ R')
  refine l_ifne (tgt := 465) C dL_law_450 (by decide) (fun _ => last) (fun z => ?_)
  refine l_aload C dL_law_453 rfl (q := 3) rfl ?_
  refine l_iconst (v := 0) C dL_law_454 (by decide) ?_
  refine l_out0 C dL_law_455 ?_
  refine l_iload (q := 0) C dL_law_456 rfl ?_
  refine l_i2l C dL_law_458 ?_
  rw [e3 z]
  exact l_lcmp_eq (tgt := 465) C dL_law_459 dL_law_460 (by decide) last
end CBOX
