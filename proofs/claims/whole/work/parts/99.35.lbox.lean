/-! The law calls its own box. -/
theorem wi_f11_box : Cond.instanceMethod yX11_box ∈ wU := wU_mem (List.mem_append_right _ (List.mem_append_right _ (List.mem_append_right _ (List.mem_append_right _ (List.mem_append_right _ (List.mem_append_left _ (List.mem_of_getElem? (l := tables_1_5) (i := 177) (by decide +kernel)))))))) (by decide +kernel)
theorem wc_f11_box : Cond.code yX11_box cX11_box 4 (some .int) ∈ wU := wU_mem (List.mem_append_right _ (List.mem_append_right _ (List.mem_append_right _ (List.mem_append_right _ (List.mem_append_right _ (List.mem_append_left _ (List.mem_of_getElem? (l := tables_1_5) (i := 179) (by decide +kernel)))))))) (by decide +kernel)
theorem wse_f11_box : Cond.selects RX11 yX11_box yX11_box ∈ wU := wU_mem (List.mem_append_right _ (List.mem_append_right _ (List.mem_append_right _ (List.mem_append_right _ (List.mem_append_right _ (List.mem_append_left _ (List.mem_of_getElem? (l := tables_1_5) (i := 178) (by decide +kernel)))))))) (by decide +kernel)
theorem yw_f11_box : Yv yX11_box RX11 11 cX11_box 4 (some .int) 2 := ⟨wi_f11_box, wse_f11_box, in_X11, wc_f11_box, by decide +kernel, Nat.le_of_ble_eq_true rfl, _, rfl, rfl⟩
theorem wi_f12_box : Cond.instanceMethod yX12_box ∈ wU := wU_mem (List.mem_append_right _ (List.mem_append_right _ (List.mem_append_right _ (List.mem_append_right _ (List.mem_append_right _ (List.mem_append_right _ (List.mem_append_right _ (List.mem_append_left _ (List.mem_of_getElem? (l := tables_1_7) (i := 175) (by decide +kernel)))))))))) (by decide +kernel)
theorem wc_f12_box : Cond.code yX12_box cX12_box 3 (some .int) ∈ wU := wU_mem (List.mem_append_right _ (List.mem_append_right _ (List.mem_append_right _ (List.mem_append_right _ (List.mem_append_right _ (List.mem_append_right _ (List.mem_append_right _ (List.mem_append_left _ (List.mem_of_getElem? (l := tables_1_7) (i := 177) (by decide +kernel)))))))))) (by decide +kernel)
theorem wse_f12_box : Cond.selects RX12 yX12_box yX12_box ∈ wU := wU_mem (List.mem_append_right _ (List.mem_append_right _ (List.mem_append_right _ (List.mem_append_right _ (List.mem_append_right _ (List.mem_append_right _ (List.mem_append_right _ (List.mem_append_left _ (List.mem_of_getElem? (l := tables_1_7) (i := 176) (by decide +kernel)))))))))) (by decide +kernel)
theorem yw_f12_box : Yv yX12_box RX12 12 cX12_box 3 (some .int) 2 := ⟨wi_f12_box, wse_f12_box, in_X12, wc_f12_box, by decide +kernel, Nat.le_of_ble_eq_true rfl, _, rfl, rfl⟩
theorem wi_f12_thrown : Cond.instanceMethod yX12_thrown ∈ wU := wU_mem (List.mem_append_right _ (List.mem_append_right _ (List.mem_append_right _ (List.mem_append_right _ (List.mem_append_right _ (List.mem_append_right _ (List.mem_append_right _ (List.mem_append_left _ (List.mem_of_getElem? (l := tables_1_7) (i := 34) (by decide +kernel)))))))))) (by decide +kernel)
theorem wc_f12_thrown : Cond.code yX12_thrown cX12_thrown 1 (some .int) ∈ wU := wU_mem (List.mem_append_right _ (List.mem_append_right _ (List.mem_append_right _ (List.mem_append_right _ (List.mem_append_right _ (List.mem_append_right _ (List.mem_append_right _ (List.mem_append_left _ (List.mem_of_getElem? (l := tables_1_7) (i := 36) (by decide +kernel)))))))))) (by decide +kernel)
theorem wse_f12_thrown : Cond.selects RX12 yX12_thrown yX12_thrown ∈ wU := wU_mem (List.mem_append_right _ (List.mem_append_right _ (List.mem_append_right _ (List.mem_append_right _ (List.mem_append_right _ (List.mem_append_right _ (List.mem_append_right _ (List.mem_append_left _ (List.mem_of_getElem? (l := tables_1_7) (i := 35) (by decide +kernel)))))))))) (by decide +kernel)
theorem yw_f12_thrown : Yv yX12_thrown RX12 12 cX12_thrown 1 (some .int) 0 := ⟨wi_f12_thrown, wse_f12_thrown, in_X12, wc_f12_thrown, by decide +kernel, Nat.le_of_ble_eq_true rfl, _, rfl, rfl⟩
theorem wl_44 : Cond.methodLink RL 44 yX12_box ∈ wU := wU_mem (List.mem_append_right _ (List.mem_append_right _ (List.mem_append_right _ (List.mem_append_right _ (List.mem_append_right _ (List.mem_append_right _ (List.mem_append_right _ (List.mem_append_left _ (List.mem_of_getElem? (l := tables_1_7) (i := 174) (by decide +kernel)))))))))) (by decide +kernel)
theorem wl_45 : Cond.methodLink RL 45 yX12_thrown ∈ wU := wU_mem (List.mem_append_right _ (List.mem_append_right _ (List.mem_append_right _ (List.mem_append_right _ (List.mem_append_right _ (List.mem_append_right _ (List.mem_append_right _ (List.mem_append_left _ (List.mem_of_getElem? (l := tables_1_7) (i := 33) (by decide +kernel)))))))))) (by decide +kernel)
theorem wl_7 : Cond.methodLink RL 7 yX11_box ∈ wU := wU_mem (List.mem_append_right _ (List.mem_append_right _ (List.mem_append_right _ (List.mem_append_right _ (List.mem_append_right _ (List.mem_append_left _ (List.mem_of_getElem? (l := tables_1_5) (i := 176) (by decide +kernel)))))))) (by decide +kernel)
theorem wl_39 : Cond.methodLink RL 39 yL_box ∈ wU := wU_mem (List.mem_append_right _ (List.mem_append_right _ (List.mem_append_right _ (List.mem_append_right _ (List.mem_append_right _ (List.mem_append_left _ (List.mem_of_getElem? (l := tables_1_5) (i := 171) (by decide +kernel)))))))) (by decide +kernel)
theorem ws_box : Cond.static yL_box ∈ wU := wU_mem (List.mem_append_right _ (List.mem_append_right _ (List.mem_append_right _ (List.mem_append_right _ (List.mem_append_right _ (List.mem_append_left _ (List.mem_of_getElem? (l := tables_1_5) (i := 172) (by decide +kernel)))))))) (by decide +kernel)
theorem wn_law : Cond.initialized RL ∈ wU := wU_mem (List.mem_append_right _ (List.mem_append_left _ (List.mem_of_getElem? (l := tables_1_1) (i := 0) (by decide +kernel)))) (by decide +kernel)
theorem wc_box : Cond.codeWith yL_box cL_box 5 (some .int) [(0, 10, 13, 13), (0, 10, 17, 15)] ∈ wU := wU_mem (List.mem_append_right _ (List.mem_append_right _ (List.mem_append_right _ (List.mem_append_right _ (List.mem_append_right _ (List.mem_append_left _ (List.mem_of_getElem? (l := tables_1_5) (i := 173) (by decide +kernel)))))))) (by decide +kernel)
theorem wk_13 : Cond.classLink RL 13 nIOB ∈ wU := wU_mem (List.mem_append_right _ (List.mem_append_right _ (List.mem_append_right _ (List.mem_append_right _ (List.mem_append_right _ (List.mem_append_left _ (List.mem_of_getElem? (l := tables_1_5) (i := 174) (by decide +kernel)))))))) (by decide +kernel)
theorem wk_15 : Cond.classLink RL 15 nNSE ∈ wU := wU_mem (List.mem_append_right _ (List.mem_append_right _ (List.mem_append_right _ (List.mem_append_right _ (List.mem_append_right _ (List.mem_append_left _ (List.mem_of_getElem? (l := tables_1_5) (i := 175) (by decide +kernel)))))))) (by decide +kernel)
/-- a call by contract over one of the worlds: what comes back -/
theorem w_ok {own : String} {cc : ByteArray} {nL pc cells slots : Nat} {st : List Value} {R : Room} {A : Nat → Prop} {Λ : Lay} {ad : Nat → Nat} {cy : Nat → ClassId} {y : MethodName} {CN : String} {bytes : ByteArray} {maxL n idx ci : Nat} {ret' : Option FieldType} {rm' : Room} {As : List Value} {h : Hp} {post' : Option Value → Hp → Prop} {p : Program} {l : Launch} {e : Env} {s : State} {m : MethodId} {args : Array Value} {below : List Frame} {meth : Method} {c : Code} {D : va_G} {Q : State → Prop} {H : Heap} {locs : List Loc} {ls : Array Slot}
    (hx : p.tables.exec = Jvm.exec) (hb : c.code = cc) (hml : c.maxLocals = nL) (hown : s.vm.findClass own = some m.cls) (hts : ∀ w ∈ wU, w.before args s = true) (hK : va_K D vwCl (tysU cy) s) (hZ : Zs A s s.heap) (hA0 : ∀ q, s.heap.size ≤ q → A q) (hAp : ∀ p, p < Λ.2.2 → A (ad p)) (hi : ∀ p q, p < Λ.2.2 → q < Λ.2.2 → ad p = ad q → p = q)
    (d : decode cc pc = .ok (.invokevirtual idx, 3)) (hml' : Cond.methodLink own idx y ∈ wU) (Y : Yv y CN ci bytes maxL ret' n) (hc : rm'.cells = 0 ∧ rm'.slots = 0) (hR : rm'.frames + 1 ≤ R.frames ∧ 8 + (maxL + 11) + rm'.locals ≤ R.locals) (hcs : cells ≤ R.cells ∧ slots ≤ R.slots) (hp : 0 < Λ.2.2) (hk : Λ.1 0 = ci) (hn : As.length = n) (hAs : As.map (cV ad) = As) (hw : (st.map fun v => v.category).sum ≤ 8) (ok : Ok Λ l y bytes maxL ret' rm' (.ref 0 :: As) h post')
    (hP : va_P D vwCl (wd Λ ad cy h) H) (hS : va_S A s.heap H locs) (hl : ls.size = nL)
    (k : ∀ r h' H1 locs1, post' r h' → va_P D vwCl (wd Λ ad cy h') H1 → (∀ q : Nat, q < H.size → (∀ p, p < Λ.2.2 → q ≠ ad p) → H1[q]? = H[q]?) → va_S A s.heap H1 locs1 → W p l e R s m args below meth c H1 locs1 cells slots Q (F0 m (pc + 3) ls ((r.map (cV ad)).toList ++ st))) : W p l e R s m args below meth c H locs cells slots Q (F0 m pc ls (As.reverse ++ .ref (ad 0) :: st)) := by
  obtain ⟨y2, y3, y4, y5, y6, y7, q, y8, y9⟩ := Y
  have hD : va_D A (wd Λ ad cy h) := wd_D hi hAp
  have hrecv : ∃ cell : Cell, H[ad 0]? = some cell ∧ cell.vm.isStatics = false ∧ s.vm.findClass CN = some cell.cls := by
    have := va_recv hK hP y8 (q0 := 0) (a := ad 0) (fs := (List.range (nF ci)).map (fval Λ ad h 0)) (by rw [wd_at hp, ent_obj hk y7])
    rw [y9] at this
    exact this
  have ok' := ok D ad cy H.size
  rw [show (Value.ref 0 :: As).map (cV ad) = .ref (ad 0) :: As from by rw [List.map_cons, hAs]; rfl] at ok'
  have hr := va_runV (e := e) (below := below) (meth := meth) (locs := locs) (cells := cells) (slots := slots) (As := As) (rest := st) (n := n) (b := ad 0) (g := F0 m pc ls (As.reverse ++ .ref (ad 0) :: st)) ⟨hx, hb, hml, hown, hts⟩ ok' (cwV n hts (in_wsV hml' y2 y3 y4 y5) rfl hc.1 hc.2 y6 hR) ⟨Px_blind, hrecv, fun U hU hW => ⟨rfl, Px_of (p := 0) hK hA0 hAp hZ hP hD hS U hU hW⟩⟩ rfl hn hl rfl (lv_room hw) d ⟨by simpa using hcs.1, by simpa using hcs.2⟩
  intro T hT X
  obtain ⟨v, st₀, t, T', Lc, h0, X', hL, e1, e2, ⟨⟨r, h', hv, hp', hP1, hK1, hD1⟩, hz, hkq⟩, stp⟩ := hr T hT X
  have hsub := AA_sub (Λ := Λ) (ad := ad) (A := A) hA0 hAp hS.1
  rw [h0] at hz hkq
  have hv' : v = r.map (cV ad) := by injection hv
  subst hv'
  have hS' : va_S A s.heap T'.heap (locs ++ Lc) := ⟨Nat.le_trans hS.1 (by rw [e1]; exact hz), fun q h1 h2 => by rw [e1, hkq q (Nat.lt_of_lt_of_le h1 hS.1) (fun z => h2 (hsub q z))]; exact hS.2.1 q h1 h2, fun q hq => by
      rcases List.mem_append.mp hq with h | h
      · exact hS.2.2 q h
      · exact hsub _ (hL q h)⟩
  have KK := k r h' T'.heap (locs ++ Lc) hp' (by rw [e1]; exact hP1) (fun q h1 h2 => by
    rw [e1]
    refine hkq q h1 (fun z => ?_)
    rcases z with ⟨p, hp, e⟩ | z
    · exact h2 p hp e
    · omega) hS'
  obtain ⟨t2, a1, b1⟩ := KK T' rfl X'
  exact ⟨t2, stp t2 a1, b1⟩

/-! The law's own method box. -/
abbrev rm_lbox : Room := { frames := 7, cells := 1, slots := 6, locals := 140 }
theorem lb_tab {L : List ExceptionTableEntry} (h : L.map (fun h => (h.startPc, h.endPc, h.handlerPc, h.catchType)) = [(0, 10, 13, 13), (0, 10, 17, 15)]) : ∃ r1 r2 : ExceptionTableEntry, L = [r1, r2] ∧ (r1.startPc = 0 ∧ r1.endPc = 10 ∧ r1.handlerPc = 13 ∧ r1.catchType = 13) ∧ (r2.startPc = 0 ∧ r2.endPc = 10 ∧ r2.handlerPc = 17 ∧ r2.catchType = 15) := by
  match L, h with
  | [], h => cases h
  | [_], h => simp at h
  | [r1, r2], h =>
    simp only [List.map_cons, List.map_nil, List.cons.injEq, Prod.mk.injEq, and_true] at h
    exact ⟨r1, r2, rfl, h.1, h.2⟩
  | _ :: _ :: _ :: _, h => simp at h
def Qb (D : va_G) (cy : Nat → ClassId) (a : Nat → Nat) (o : Nat) (h : Hp) (f : Nat → Int64) (r : Int32) : Array Value → State → Outcome → State → Prop := fun _ st oc t => oc = .returned (some (.int r)) ∧ va_P D vwCl (wd ΛC a cy h) t.heap ∧ va_P D vwCl (outW cy o f) t.heap ∧ st.heap.size ≤ t.heap.size ∧ ∀ q : Nat, q < st.heap.size → q ≠ o → (∀ p, p < 101 → q ≠ a p) → t.heap[q]? = st.heap[q]?
section LB
variable {p : Program} {l : Launch} {e : Env} {s : State} {m : MethodId} {below : List Frame} {meth : Method} {c : Code} {D : va_G} {a : Nat → Nat} {cy : Nat → ClassId} {h : Hp} {o : Nat} {f : Nat → Int64} {A : Nat → Prop}
set_option maxHeartbeats 1000000 in
theorem lb_body {x y : Int32} {q1 q2 : Nat} (hx : p.tables.exec = Jvm.exec) (hb : c.code = cL_box) (hml : c.maxLocals = 5) (hr : meth.sig.returnType = some .int) (hlk : meth.locks = false) (htb : c.exceptionTable.toList.map (fun h => (h.startPc, h.endPc, h.handlerPc, h.catchType)) = [(0, 10, 13, 13), (0, 10, 17, 15)]) (hown : s.vm.findClass RL = some m.cls) (hts : ∀ w ∈ wU, w.before ([Value.ref (a 0), .int x, .int y, .ref o].toArray) s = true) (hno : ∀ k k', s.vm.findClass nNSE = some k → s.vm.findClass nIOB = some k' → s.vm.assignable k k' = false) (hK : va_K D vwCl (tysU cy) s) (hZ : Zs A s s.heap) (hA0 : ∀ q, s.heap.size ≤ q → A q) (hAp : ∀ p, p < 101 → A (a p)) (hi : ∀ p q, p < 101 → q < 101 → a p = a q → p = q) (hAo : A o) (hao : ∀ p, p < 101 → a p ≠ o) (hP : va_P D vwCl (wd ΛC a cy h) s.heap) (hO : va_P D vwCl (outW cy o f) s.heap) (hfl : l.flags = flags0) (ht : ∀ (A' : Array Value) (U : State), s.WarmedH U.vm → U.heap = s.heap → (∀ w ∈ thA nIOB 137 7 Bundle.six, w.before A' U = true) ∧ ∀ w ∈ thA nNSE 169 13 six13, w.before A' U = true) (z1 : vk_R RX11 135 "no such box" q1 s) (z2 : vk_R RX11 167 "no such what" q2 s) :
    (∀ j k, j < 6 → x = nI j → bi (nI j) (h.1 6 1) = 1 → k ≤ 6 → y = nI k → W p l e rm_lbox s m ([Value.ref (a 0), .int x, .int y, .ref o].toArray) below meth c s.heap [] 0 0 (MQ below (Qb D cy a o h (vp_updL f 0 (bxV h (8 + 2 * j) k).toInt64) 0) ([Value.ref (a 0), .int x, .int y, .ref o].toArray) s 1 6 A) (entryFrame m ([Value.ref (a 0), .int x, .int y, .ref o].toArray) 5)) ∧
    (bi x (h.1 6 1) = 0 → W p l e rm_lbox s m ([Value.ref (a 0), .int x, .int y, .ref o].toArray) below meth c s.heap [] 0 0 (MQ below (Qb D cy a o h f 1) ([Value.ref (a 0), .int x, .int y, .ref o].toArray) s 1 6 A) (entryFrame m ([Value.ref (a 0), .int x, .int y, .ref o].toArray) 5)) ∧
    (∀ j, j < 6 → x = nI j → bi x (h.1 6 1) = 1 → (y.toInt < 0 ∨ 6 < y.toInt) → W p l e rm_lbox s m ([Value.ref (a 0), .int x, .int y, .ref o].toArray) below meth c s.heap [] 0 0 (MQ below (Qb D cy a o h f 2) ([Value.ref (a 0), .int x, .int y, .ref o].toArray) s 1 6 A) (entryFrame m ([Value.ref (a 0), .int x, .int y, .ref o].toArray) 5)) := by
  have hl := lv_entry ([Value.ref (a 0), .int x, .int y, .ref o]) (n := 5) (Nat.le_of_ble_eq_true rfl)
  rw [lg_entry_eq]
  generalize (lg_sl ([Value.ref (a 0), .int x, .int y, .ref o]) ++ List.replicate (5 - (lg_sl ([Value.ref (a 0), .int x, .int y, .ref o])).length) Slot.unset).toArray = ls at hl ⊢
  have hl : lv_has ls 5 [(0, .ref (a 0)), (1, .int x), (2, .int y), (3, .ref o)] := hl
  generalize hargs : [Value.ref (a 0), .int x, .int y, .ref o].toArray = args at *
  have call : ∀ Q : State → Prop, W p l e rm_lbox s m args below meth c s.heap [] 0 0 Q (F0 m 5 ls ([Value.int x, .int y].reverse ++ .ref (a 0) :: [.int 0, .ref o])) → W p l e rm_lbox s m args below meth c s.heap [] 0 0 Q (F0 m 0 ls []) := fun Q k => by
    refine lv_aload_n hx hb dL_box_0 rfl (lv_at hl 3 rfl) ?_
    refine lv_iconst (v := 0) hx hb dL_box_1 (by decide) ?_
    refine lv_aload_n hx hb dL_box_2 rfl (lv_at hl 0 rfl) ?_
    refine lv_iload_n hx hb dL_box_3 rfl (lv_at hl 1 rfl) ?_
    exact lv_iload_n hx hb dL_box_4 rfl (lv_at hl 2 rfl) k
  obtain ⟨y2, y3, y4, y5, y6, y7, q, y8, y9⟩ := yw_f11_box
  have hrecv : ∃ cell : Cell, s.heap[a 0]? = some cell ∧ cell.vm.isStatics = false ∧ s.vm.findClass RX11 = some cell.cls := by
    have := va_recv hK hP y8 (q0 := 0) (a := a 0) (fs := (List.range (nF 11)).map (fval ΛC a h 0)) (by rw [wd_at (by decide), ent_obj (ci := 11) rfl (by decide)])
    rw [y9] at this
    exact this
  have hln : ∀ sig, parseMethodDescriptor yX11_box.desc = some sig → [Value.int x, .int y].length = sig.parameters.length := fun sig hs => by
    have := y6.2.2.2
    rw [hs] at this
    exact (Option.some.inj this).symm
  obtain ⟨r1, r2, hrows, ⟨b1, b2, b3, b4⟩, ⟨c1, c2, c3, c4⟩⟩ := lb_tab htb
  have thrown : ∀ (s2 : State) (mk : MethodId) (methk : Method) (ck : Code) (bel : List Frame), s.WarmedH s2.vm → s2.heap = s.heap → s2.methodNamed? yX11_box = some mk → ck.code = cX11_box → ck.maxLocals = 4 → ck.exceptionTable.toList = [] → methk.locks = false → (bi x (h.1 6 1) = 0 → W p l e rm_thr s2 mk (Value.ref (a 0) :: [.int x, .int y]).toArray bel methk ck s2.heap [] 0 0 (QT s2 bel nIOB) (entryFrame mk (Value.ref (a 0) :: [.int x, .int y]).toArray 4)) ∧ (∀ j, j < 6 → x = nI j → bi x (h.1 6 1) = 1 → (y.toInt < 0 ∨ 6 < y.toInt) → W p l e rm_thr s2 mk (Value.ref (a 0) :: [.int x, .int y]).toArray bel methk ck s2.heap [] 0 0 (QT s2 bel nNSE) (entryFrame mk (Value.ref (a 0) :: [.int x, .int y]).toArray 4)) := by
    intro s2 mk methk ck bel hW2 hh hn hbk hmlk htk hlkk
    have hl2 := lv_entry ([Value.ref (a 0), .int x, .int y]) (n := 4) (Nat.le_of_ble_eq_true rfl)
    rw [lg_entry_eq]
    generalize (lg_sl ([Value.ref (a 0), .int x, .int y]) ++ List.replicate (4 - (lg_sl ([Value.ref (a 0), .int x, .int y])).length) Slot.unset).toArray = ls2 at hl2 ⊢
    obtain ⟨t1, t2⟩ := ht (Value.ref (a 0) :: [.int x, .int y]).toArray s2 hW2 hh
    exact box_thr (D := D) (a := a) (cy := cy) (h := h) hx hbk hmlk (findClass_of_methodNamed hn) (fun w hw => word_at hW2 (good_of_word (List.mem_filter.mp hw).2) (hts w hw)) (va_K.moved hW2.alike hK) (by rw [hh]; exact hP) hlkk htk hfl t1 t2 (z1.warm hW2) (z2.warm hW2) hl2
  have fin : ∀ (r : Int32) (H' : Heap), (∀ q : Nat, q < s.heap.size → H'[q]? = s.heap[q]?) → s.heap.size ≤ H'.size → ∀ t : State, t.heap = H' → s.WarmedH t.vm → Qb D cy a o h f r args s (.returned (some (.int r))) t := fun r H' hk hz t et _ => by
    subst et
    exact ⟨rfl, keep_wd hP (fun p _ hlt => hk _ hlt), keep_out hO (fun hlt => hk _ hlt), hz, fun q hq _ _ => hk q hq⟩
  refine ⟨fun j k hj ex hb1 hk6 ey => call _ ?_, fun hb0 => call _ ?_, fun j hj ex hb1 hy => call _ ?_⟩
  · subst ex; subst ey
    have hsubA : ∀ q, (q = o ∨ AA ΛC a s.heap.size q) → A q := fun q hq => by
      rcases hq with rfl | ⟨p, hp, rfl⟩ | hq
      · exact hAo
      · exact hAp p hp
      · exact hA0 q hq
    refine w_ok (Λ := ΛC) (ad := a) (cy := cy) (D := D) (h := h) (A := fun q => q = o ∨ AA ΛC a s.heap.size q) hx hb hml hown hts hK (hZ.narrow hsubA) (fun q hq => Or.inr (Or.inr hq)) (fun p hp => Or.inr (Or.inl ⟨p, hp, rfl⟩)) hi dL_box_5 wl_7 ⟨y2, y3, y4, y5, y6, y7, q, y8, y9⟩ ⟨rfl, rfl⟩ ⟨Nat.le_of_ble_eq_true rfl, Nat.le_of_ble_eq_true rfl⟩ ⟨Nat.zero_le _, Nat.zero_le _⟩ (by decide) rfl rfl rfl (Nat.le_of_ble_eq_true rfl) (ok_boxC h hj hb1 hk6) hP va_S.rf hl.1 ?_
    rintro _ _ H1 locs1 ⟨v, rfl, rfl, rfl⟩ hP1 hkp hS1
    refine W.eq (g2 := F0 m 8 ls (.int (bxV _ (8 + 2 * j) k) :: [.int 0, .ref o])) rfl ?_
    refine lv_i2l hx hb dL_box_8 rfl ?_
    have hO1 := keep_out hO (H1 := H1) (fun hlt => hkp o hlt (fun p hp e => hao p hp e.symm))
    have hDw := wd_D (Λ := ΛC) (ad := a) (cy := cy) (h := h) (A := fun q => q = o ∨ AA ΛC a s.heap.size q) hi (fun p hp => Or.inr (Or.inl ⟨p, hp, rfl⟩))
    have hDo : va_D (fun q => q = o ∨ AA ΛC a s.heap.size q) (outW cy o f) := ⟨fun i j u v hu hv _ => by
        have e1 := (List.getElem?_eq_some_iff.mp hu).1
        have e2 := (List.getElem?_eq_some_iff.mp hv).1
        simp [outW] at e1 e2
        omega, fun k q hq => Or.inl (out_get hq)⟩
    have hDJ := va_D.app hDo hDw (fun i j u v hu hv e => by
      obtain ⟨h1, e1⟩ := wd_get hv
      rw [out_get hu, e1] at e
      exact hao _ h1 e.symm)
    refine va_last (ws := outW cy o f ++ wd ΛC a cy h) hx hb hK (hO1.app hP1) hDJ hS1 0 2 (cA := cy 2) (n := 1) (f := f) rfl rfl (show vp_in 0 1 from vp_in_nI (n := 0) (N := 1) (by decide) (by decide)) dL_box_9 ?_
    intro H2 locs2 hJ2 _ hS2
    refine lv_goto (tgt := 21) hx hb dL_box_10 (by decide) ?_
    refine lv_iconst (v := 0) hx hb dL_box_21 (by decide) ?_
    refine W.widen (k := 1) (n := 6) (by decide) (by decide) ?_
    refine W.iret hx hb hr (fun t et _ => ?_) (fun q hq => hsubA _ (hS2.2.2 q hq)) dL_box_22 hlk
    subst et
    refine ⟨rfl, hJ2.by (fun k => k + 1) (fun k q hk => hk), fun k q hk => hJ2 k q (pre_at (w1 := outW cy o _) hk), hS2.1, fun q hq h1 h2 => hS2.2.1 q hq (fun z => ?_)⟩
    rcases z with z | ⟨p, hp, z⟩ | z
    · exact h1 z
    · exact h2 p hp z
    · omega
  · refine w_vcatch (H := s.heap) (C := RX11) (X1 := nIOB) (pre := []) (row := r1) (rows := [r2]) hx hb hml hown (hts _ wl_7) (hts _ y2) (hts _ y3) (hts _ y5) (by decide) ⟨y6.2.1, y6.2.2.1⟩ hln hl.1 dL_box_5 hrecv (Nat.le_of_ble_eq_true rfl) (Nat.le_of_ble_eq_true rfl) (Nat.le_of_ble_eq_true rfl) (Nat.le_of_ble_eq_true rfl) hrows (fun z hz => by cases hz) (by simp [covers, b1, b2]) (by rw [b4]; decide) (by rw [b4]; exact hts _ wk_13) (fun s2 mk methk ck bel g1 g2 g3 g4 g5 g6 g7 => (thrown s2 mk methk ck bel g1 g2 g3 g4 g5 g6 g7).1 hb0) (fun H' q hk hz => ?_)
    · rw [b3]
      refine lv_astore (lv' := [(4, .ref q), (0, .ref (a 0)), (1, .int x), (2, .int y), (3, .ref o)]) hx hb dL_box_13 hl (by decide) rfl (fun ls hl => ?_)
      refine lv_iconst (v := 1) hx hb dL_box_15 (by decide) ?_
      exact W.iret hx hb hr (fin 1 H' hk hz) (fun q hq => by cases hq) dL_box_16 hlk
  · refine w_vcatch (H := s.heap) (C := RX11) (X1 := nNSE) (pre := [r1]) (row := r2) (rows := []) hx hb hml hown (hts _ wl_7) (hts _ y2) (hts _ y3) (hts _ y5) (by decide) ⟨y6.2.1, y6.2.2.1⟩ hln hl.1 dL_box_5 hrecv (Nat.le_of_ble_eq_true rfl) (Nat.le_of_ble_eq_true rfl) (Nat.le_of_ble_eq_true rfl) (Nat.le_of_ble_eq_true rfl) hrows (fun z hz => by
        rw [List.mem_singleton] at hz
        subst hz
        exact ⟨by simp [covers, b1, b2], by rw [b4]; decide, nIOB, by rw [b4]; exact hts _ wk_13, hno⟩) (by simp [covers, c1, c2]) (by rw [c4]; decide) (by rw [c4]; exact hts _ wk_15) (fun s2 mk methk ck bel g1 g2 g3 g4 g5 g6 g7 => (thrown s2 mk methk ck bel g1 g2 g3 g4 g5 g6 g7).2 j hj ex hb1 hy) (fun H' q hk hz => ?_)
    · rw [c3]
      refine lv_astore (lv' := [(4, .ref q), (0, .ref (a 0)), (1, .int x), (2, .int y), (3, .ref o)]) hx hb dL_box_17 hl (by decide) rfl (fun ls hl => ?_)
      refine lv_iconst (v := 2) hx hb dL_box_19 (by decide) ?_
      exact W.iret hx hb hr (fin 2 H' hk hz) (fun q hq => by cases hq) dL_box_20 hlk
end LB
