/-! The call box: where it throws. -/
theorem wk_133 : Cond.classLink RX11 133 nIOB ∈ wU := wU_mem (List.mem_append_right _ (List.mem_append_right _ (List.mem_append_right _ (List.mem_append_right _ (List.mem_append_right _ (List.mem_append_left _ (List.mem_of_getElem? (l := tables_1_5) (i := 180) (by decide +kernel)))))))) (by decide +kernel)
theorem wk_165 : Cond.classLink RX11 165 nNSE ∈ wU := wU_mem (List.mem_append_right _ (List.mem_append_right _ (List.mem_append_right _ (List.mem_append_right _ (List.mem_append_right _ (List.mem_append_right _ (List.mem_append_left _ (List.mem_of_getElem? (l := tables_1_6) (i := 6) (by decide +kernel))))))))) (by decide +kernel)
theorem wn_iob : Cond.initialized nIOB ∈ wU := wU_mem (List.mem_append_right _ (List.mem_append_left _ (List.mem_of_getElem? (l := tables_1_1) (i := 19) (by decide +kernel)))) (by decide +kernel)
theorem wn_nse : Cond.initialized nNSE ∈ wU := wU_mem (List.mem_append_right _ (List.mem_append_left _ (List.mem_of_getElem? (l := tables_1_1) (i := 20) (by decide +kernel)))) (by decide +kernel)
section BT
variable {p : Program} {l : Launch} {e : Env} {R : Room} {s : State} {m : MethodId} {args : Array Value} {below : List Frame} {meth : Method} {c : Code} {D : va_G} {a : Nat → Nat} {cy : Nat → ClassId} {h : Hp}
/-- isBox writes nothing at all -/
theorem isBox_pure (l : Launch) (D : va_G) (a : Nat → Nat) (cy : Nat → ClassId) (h : Hp) (x : Int32) (sz : Nat) : Met l yX11_isBox (Cond.code yX11_isBox cX11_isBox 2 (some .boolean) :: wU) { frames := 0, cells := 0, slots := 0, locals := 0 } (va_Pc [.ref (a 0), .int x] (fun U => U.heap.size = sz ∧ va_P D vwCl (wd ΛC a cy h) U.heap ∧ va_K D vwCl (tysU cy) U)) (fun _ st o t => o = .returned (some (.int (bi x (h.1 6 1)))) ∧ t.heap = st.heap) 0 0 (fun _ => False) := by
  refine Met.ofW (cc := cX11_isBox) (maxL := 2) (ret := some .boolean) (by decide) rfl ?_
  intro p e s m args below meth c s₁ B hml hv
  obtain ⟨rfl, hsz, hP, hK⟩ := hv
  have hx := B.exec
  have hb := B.bytes
  have hr := B.returns
  have hts0 := atoms_spec (ws := Cond.code yX11_isBox cX11_isBox 2 (some .boolean) :: wU) B.pre
  have hts : ∀ w ∈ wU, w.before _ s = true := fun w hw => hts0 w (List.mem_cons_of_mem _ hw)
  have hown : s.vm.findClass RX11 = some m.cls := findClass_of_methodNamed B.named
  have hlocks := B.notSynchronized
  have hl := lv_entry ([.ref (a 0), .int x]) (n := 2) (Nat.le_of_ble_eq_true rfl)
  rw [lg_entry_eq]
  generalize (lg_sl ([.ref (a 0), .int x]) ++ List.replicate (2 - (lg_sl ([.ref (a 0), .int x])).length) Slot.unset).toArray = ls at hl ⊢
  have hl : lv_has ls 2 [(0, .ref (a 0)), (1, .int x)] := hl
  have fin : ∀ (R : Room) (v : Int32), v = 0 ∨ v = 1 → v = bi x (h.1 6 1) → W p l e R s m [Value.ref (a 0), .int x].toArray below meth c s.heap [] 0 0 (MQ below (fun _ st o t => o = .returned (some (.int (bi x (h.1 6 1)))) ∧ t.heap = st.heap) [Value.ref (a 0), .int x].toArray s 0 0 (fun _ => False)) (F0 m 20 ls [.int v]) := fun R v h01 hv =>
    W.zret (v := v) hx hb hr (by rcases h01 with rfl | rfl <;> rfl) (fun t ht hW => ⟨by rw [hv], ht⟩) (fun q hq => by cases hq) dX11_isBox_20 hlocks
  refine lv_iload_n hx hb dX11_isBox_0 rfl (lv_at hl 1 rfl) ?_
  refine lv_if_lt (tgt := 19) hx hb dX11_isBox_1 (by decide) (fun z => ?_) (fun z => ?_)
  · refine lv_iconst (v := 0) hx hb dX11_isBox_19 (by decide) ?_
    exact fin _ 0 (Or.inl rfl) (by unfold bi; rw [if_pos z])
  · refine lv_iload_n hx hb dX11_isBox_4 rfl (lv_at hl 1 rfl) ?_
    refine lv_aload_n hx hb dX11_isBox_5 rfl (lv_at hl 0 rfl) ?_
    obtain ⟨CN, T, h1, h2, h3, h4, h5⟩ := fl_X11_30
    refine va_get (ws := wd ΛC a cy h) (ref := (T 2).1) (v := .ref (a 6)) hx hb hts h4 hown hK hP 0 (fs := (List.range (nF 11)).map (fval ΛC a h 0)) (by rw [wd_at (by decide), ent_obj (ci := 11) rfl (by decide)]) h1 2 h2 (hts _ h5) (fun _ q => q) rfl dX11_isBox_6 ?_
    obtain ⟨CN', T', h1', h2', h3', h4', h5'⟩ := fl_X11_263
    refine va_get (ws := wd ΛC a cy h) (ref := (T' 1).1) (v := .int (h.1 6 1)) hx hb hts h4' hown hK hP 6 (fs := (List.range (nF 9)).map (fval ΛC a h 6)) (by rw [wd_at (by decide), ent_obj (ci := 9) rfl (by decide)]) h1' 1 h2' (hts _ h5') (fun _ q => q) rfl dX11_isBox_9 ?_
    refine lv_icmp_ge (tgt := 19) hx hb dX11_isBox_12 (by decide) (fun z2 => ?_) (fun z2 => ?_)
    · refine lv_iconst (v := 0) hx hb dX11_isBox_19 (by decide) ?_
      exact fin _ 0 (Or.inl rfl) (by unfold bi; rw [if_neg z, if_pos z2])
    · refine lv_iconst (v := 1) hx hb dX11_isBox_15 (by decide) ?_
      refine lv_goto (tgt := 20) hx hb dX11_isBox_16 (by decide) ?_
      exact fin _ 1 (Or.inr rfl) (by unfold bi; rw [if_neg z, if_neg z2])
end BT
/-- behind a call that writes nothing and makes nothing -/
theorem pure_run {p : Program} {l : Launch} {e : Env} {R : Room} {s : State} {m : MethodId} {args : Array Value} {below : List Frame} {meth : Method} {c : Code} {H : Heap} {locs : List Loc} {cells slots pc : Nat} {ls : Array Slot} {st0 st : List Value} {r : Int32} {ar : Array Value} {Q : State → Prop} (hr : va_Run p l e R s m args below meth c H locs cells slots 0 0 (F0 m pc ls st0) st ((fun (_ : Array Value) (s1 : State) (o : Outcome) (t : State) => o = .returned (some (.int r)) ∧ t.heap = s1.heap) ar) (fun _ => False)) (k : W p l e R s m args below meth c H locs cells slots Q (F0 m (pc + 3) ls (.int r :: st))) : W p l e R s m args below meth c H locs cells slots Q (F0 m pc ls st0) := by
  intro T hT X
  obtain ⟨v, s1, t, T', L, h0, X', hL, e1, e2, ⟨hv, hh⟩, stp⟩ := hr T hT X
  have hLn : L = [] := by
    cases L with
    | nil => rfl
    | cons q L => exact absurd (hL q List.mem_cons_self) id
  subst hLn
  have hv' : v = some (.int r) := by injection hv
  subst hv'
  rw [List.append_nil] at X'
  obtain ⟨t2, a1, b1⟩ := k T' (by rw [e1, hh, h0]) X'
  exact ⟨t2, stp t2 a1, b1⟩
abbrev rm_thr : Room := { frames := 6, cells := 1, slots := 6, locals := 110 }
/-- what comes of a method that throws a new one -/
def QT (s : State) (below : List Frame) (X : String) : State → Prop := fun U => ∃ (q : Nat) (ce : Cell), U.status = .running ∧ Ended U below (.threw q) ∧ s.WarmedH U.vm ∧ s.sameButNew ({ U with vm := s.vm } : State) [] 1 6 ∧ U.heap[q]? = some ce ∧ ce.vm = .none ∧ s.vm.findClass X = some ce.cls ∧ s.heap.size ≤ q
section BT2
variable {p : Program} {l : Launch} {e : Env} {s : State} {m : MethodId} {args : Array Value} {below : List Frame} {meth : Method} {c : Code} {D : va_G} {a : Nat → Nat} {cy : Nat → ClassId} {h : Hp} {ls : Array Slot}
theorem thr_at {cls : String} {ic idx kidx sidx pc q1 : Nat} {tx : String} {bytes : ByteArray} (hx : p.tables.exec = Jvm.exec) (hb : c.code = cX11_box) (hml : c.maxLocals = 4) (hls : ls.size = 4) (hown : s.vm.findClass RX11 = some m.cls) (hlocks : meth.locks = false) (hexc : c.exceptionTable.toList = []) (hflags : l.flags = flags0) (hcls : Bundle.fit cls = true)
    (b0 : decode bytes 0 = .ok (.aload_n 0, 1)) (b1 : decode bytes 1 = .ok (.aload_n 1, 1)) (b2 : decode bytes 2 = .ok (.invokespecial idx, 3)) (b5 : decode bytes 5 = .ok (.return_, 1)) (ht : ∀ w ∈ thA cls ic idx bytes, w.before args s = true) (hcl : (Cond.classLink RX11 kidx cls).before args s = true) (hin : (Cond.initialized cls).before args s = true) (hS : vk_R RX11 sidx tx q1 s)
    (d0 : decode cX11_box pc = .ok (.new kidx, 3)) (d1 : decode cX11_box (pc + 3) = .ok (.dup, 1)) (d2 : decode cX11_box (pc + 3 + 1) = .ok (.ldc sidx, 2)) (d3 : decode cX11_box (pc + 3 + 1 + 2) = .ok (.invokespecial ic, 3)) (d4 : decode cX11_box (pc + 3 + 1 + 2 + 3) = .ok (.athrow, 1)) : W p l e rm_thr s m args below meth c s.heap [] 0 0 (QT s below cls) (F0 m pc ls []) := by
  have hins : (Cond.instantiable cls 6).before args s = true := ht _ (by unfold thA; simp)
  refine W.newc hx hb hown hcl hins hin rfl d0 (Nat.le_of_ble_eq_true rfl) (Nat.le_of_ble_eq_true rfl) (fun cC kC h1 h2 h3 h4 => ?_)
  refine W.eq (g2 := F0 m (pc + 3) ls [.ref s.heap.size]) rfl ?_
  refine lv_dup hx hb d1 rfl ?_
  refine va_ldcS hx hb hown hS d2 ?_
  intro T hT X
  have htr : e.platform.stackTraces = false := Launch.traces_off hflags X.admits
  obtain ⟨U, st, u1, u2, u3, u4, ce, u5, u6, u7⟩ := thr_new (a := s.heap.size) (cX := cC) (kX := kC) (msg := .ref q1) (g := F0 m (pc + 3 + 1 + 2) ls [.ref q1, .ref s.heap.size, .ref s.heap.size]) X hx htr hown hcls b0 b1 b2 b5 ht h1 h2 (by rw [hT]; exact Array.getElem?_push_size) (Nat.le_refl _) rfl rfl (hls.trans hml.symm) rfl rfl rfl (by rw [hb]; exact d3) (by rw [hb]; exact d4) (fun y hy => by rw [hexc] at hy; cases hy) (by decide) (Nat.le_of_ble_eq_true rfl) hlocks
  exact ⟨U, st, s.heap.size, ce, u1, u2, u3, u4, u5, u6, by rw [u7]; exact h1, Nat.le_refl _⟩
/-- box throws: no such box, or no such what -/
theorem box_thr {x y : Int32} {q1 q2 : Nat} (hx : p.tables.exec = Jvm.exec) (hb : c.code = cX11_box) (hml : c.maxLocals = 4) (hown : s.vm.findClass RX11 = some m.cls) (hts : ∀ w ∈ wU, w.before args s = true) (hK : va_K D vwCl (tysU cy) s) (hP : va_P D vwCl (wd ΛC a cy h) s.heap) (hlocks : meth.locks = false) (hexc : c.exceptionTable.toList = []) (hflags : l.flags = flags0) (t1 : ∀ w ∈ thA nIOB 137 7 Bundle.six, w.before args s = true) (t2 : ∀ w ∈ thA nNSE 169 13 six13, w.before args s = true) (s1 : vk_R RX11 135 "no such box" q1 s) (s2 : vk_R RX11 167 "no such what" q2 s) (hl : lv_has ls 4 [(0, .ref (a 0)), (1, .int x), (2, .int y)]) : (bi x (h.1 6 1) = 0 → W p l e rm_thr s m args below meth c s.heap [] 0 0 (QT s below nIOB) (F0 m 0 ls [])) ∧ (∀ j, j < 6 → x = nI j → bi x (h.1 6 1) = 1 → (y.toInt < 0 ∨ 6 < y.toInt) → W p l e rm_thr s m args below meth c s.heap [] 0 0 (QT s below nNSE) (F0 m 0 ls [])) := by
  have call : ∀ (Q : State → Prop), W p l e rm_thr s m args below meth c s.heap [] 0 0 Q (F0 m 5 ls [.int (bi x (h.1 6 1))]) → W p l e rm_thr s m args below meth c s.heap [] 0 0 Q (F0 m 0 ls []) := fun Q k => by
    refine lv_aload_n hx hb dX11_box_0 rfl (lv_at hl 0 rfl) ?_
    refine lv_iload_n hx hb dX11_box_1 rfl (lv_at hl 1 rfl) ?_
    obtain ⟨y2, y3, y4, y5, y6, y7, q, y8, y9⟩ := yv_f11_isBox
    have hrecv : ∃ cell : Cell, s.heap[a 0]? = some cell ∧ cell.vm.isStatics = false ∧ s.vm.findClass RX11 = some cell.cls := by
      have := va_recv hK hP y8 (q0 := 0) (a := a 0) (fs := (List.range (nF 11)).map (fval ΛC a h 0)) (by rw [wd_at (by decide), ent_obj (ci := 11) rfl (by decide)])
      rw [y9] at this
      exact this
    refine pure_run (ar := #[]) (va_runV (As := [.int x]) (rest := []) (n := 1) (b := a 0) ⟨hx, hb, hml, hown, hts⟩ (isBox_pure l D a cy h x s.heap.size) (cwV 1 hts (in_wsV ml_X11_129 y2 y3 y4 y5) rfl rfl rfl y6 ⟨Nat.le_of_ble_eq_true rfl, Nat.le_of_ble_eq_true rfl⟩) ⟨fun ar U g mk q => ?_, hrecv, fun U hU hW => ⟨rfl, by rw [hU], by rw [hU]; exact hP, va_K.moved hW.alike hK⟩⟩ rfl rfl hl.1 rfl (lv_room (Nat.le_of_ble_eq_true rfl)) dX11_box_2 ⟨Nat.le_of_ble_eq_true rfl, Nat.le_of_ble_eq_true rfl⟩) k
    obtain ⟨g0, g1, g2, g3⟩ := q
    exact ⟨g0, g1, g2, va_K.moved (u := U) (U := U.calling g mk ar) (Vm.Alike.refl U.vm) g3⟩
  refine ⟨fun b0 => call _ ?_, fun j hj ex b1 hy => call _ ?_⟩
  · rw [b0]
    refine lv_if_ne (tgt := 18) hx hb dX11_box_5 (by decide) (fun z => absurd rfl z) (fun _ => ?_)
    exact thr_at hx hb hml hl.1 hown hlocks hexc hflags (by decide) Bundle.six_0 Bundle.six_1 Bundle.six_2 Bundle.six_5 t1 (hts _ wk_133) (hts _ wn_iob) s1 dX11_box_8 dX11_box_11 dX11_box_12 dX11_box_14 dX11_box_17
  · rw [b1]
    refine lv_if_ne (tgt := 18) hx hb dX11_box_5 (by decide) (fun _ => ?_) (fun z => absurd z (by decide))
    refine lv_aload_n hx hb dX11_box_18 rfl (lv_at hl 0 rfl) ?_
    obtain ⟨CN, T, h1, h2, h3, h4, h5⟩ := fl_X11_30
    refine va_get (ws := wd ΛC a cy h) (ref := (T 2).1) (v := .ref (a 6)) hx hb hts h4 hown hK hP 0 (fs := (List.range (nF 11)).map (fval ΛC a h 0)) (by rw [wd_at (by decide), ent_obj (ci := 11) rfl (by decide)]) h1 2 h2 (hts _ h5) (fun _ q => q) rfl dX11_box_19 ?_
    obtain ⟨CN', T', h1', h2', h3', h4', h5'⟩ := fl_X11_140
    refine va_get (ws := wd ΛC a cy h) (ref := (T' 0).1) (v := .ref (a 7)) hx hb hts h4' hown hK hP 6 (fs := (List.range (nF 9)).map (fval ΛC a h 6)) (by rw [wd_at (by decide), ent_obj (ci := 9) rfl (by decide)]) h1' 0 h2' (hts _ h5') (fun _ q => q) rfl dX11_box_22 ?_
    refine lv_iload_n hx hb dX11_box_25 rfl (lv_at hl 1 rfl) ?_
    refine va_aldq (ws := wd ΛC a cy h) hx hb hK hP 7 4 (cA := cy 4) (C := "LaughDrum$Box") (n := 6) (f := fun j => some (a (7 + 1 + 2 * j))) (by rw [wd_at (by decide), ent_box rfl]; rfl) rfl (by rw [ex]; exact vp_in_nI hj (by omega)) dX11_box_26 ?_
    refine lv_astore_n (lv' := [(3, .ref (a (7 + 1 + 2 * x.toNatClampNeg))), (0, .ref (a 0)), (1, .int x), (2, .int y)]) hx hb dX11_box_27 rfl hl (by decide) rfl (fun ls hl => ?_)
    refine lv_iload_n hx hb dX11_box_28 rfl (lv_at hl 3 rfl) ?_
    refine lv_tableOut (tgt := 115) hx hb dX11_box_29 hy (by decide) ?_
    exact thr_at hx hb hml hl.1 hown hlocks hexc hflags (by decide) six13_0 six13_1 six13_2 six13_5 t2 (hts _ wk_165) (hts _ wn_nse) s2 dX11_box_115 dX11_box_118 dX11_box_119 dX11_box_121 dX11_box_124
end BT2
