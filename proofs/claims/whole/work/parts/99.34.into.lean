/-! A handler is sought through rows whose classes may not be resolved yet. -/
section SEEK
variable {e : Env} {s0 S : State} {f : JFrame} {a : Addr} {x : ExceptionTableEntry} {t : List ExceptionTableEntry} {ci : ClassId} {cell : Cell}
theorem sk_at (hW : s0.WarmedH S.vm) (hl : s0.vm.ClassLinks e.platform f.method.cls x.catchType ci) (hk0 : ∃ k, s0.vm.classes[cell.cls]? = some k) : s0.WarmedH (S.vm.noted f.method.cls x.catchType (.cls ci)) ∧ (∃ k, (S.vm.noted f.method.cls x.catchType (.cls ci)).classes[cell.cls]? = some k) ∧ (∃ k, (S.vm.noted f.method.cls x.catchType (.cls ci)).classes[ci]? = some k) ∧ (S.vm.noted f.method.cls x.catchType (.cls ci)).assignable cell.cls ci = s0.vm.assignable cell.cls ci := by
  obtain ⟨dk, _, _, kt, hd, _, _, _, _, hkt, _, hopen⟩ := hl.here
  have h1 : s0.WarmedH (S.vm.noted f.method.cls x.catchType (.cls ci)) := hW.noted hd hopen (State.rightAt_cls hl)
  obtain ⟨k0, hk0⟩ := hk0
  obtain ⟨k1, g1, -⟩ := h1.alike.2.2 _ _ hk0
  obtain ⟨k2, g2, -⟩ := h1.alike.2.2 _ _ hkt
  exact ⟨h1, ⟨k1, g1⟩, ⟨k2, g2⟩, by rw [h1.alike.assignable]⟩
theorem sk_row (hW : s0.WarmedH S.vm) (hl : s0.vm.ClassLinks e.platform f.method.cls x.catchType ci) (hk0 : ∃ k, s0.vm.classes[cell.cls]? = some k) (hx : covers x f.pc = true) (h0 : x.catchType ≠ 0) (hc : S.heap[a]? = some cell) (ho : ∀ k, cell.vm ≠ .statics k) (Q : Handler → Pre) (E : CtlPost) (d : Bool) (acts : List Action) : wp (findHandler.go f a (x :: t)) Q E e d acts S ↔ if s0.vm.assignable cell.cls ci = true then Q (.found x.handlerPc) d acts (S.setVm (S.vm.noted f.method.cls x.catchType (.cls ci))) else wp (findHandler.go f a t) Q E e d acts (S.setVm (S.vm.noted f.method.cls x.catchType (.cls ci))) := by
  obtain ⟨-, ⟨k1, g1⟩, ⟨k2, g2⟩, g3⟩ := sk_at (S := S) (x := x) hW hl hk0
  obtain ⟨ha, ht⟩ := (resolveClass_links e.toSetting (hW.classLinks hl)).op (op := VmOp.resolveClass f.method.cls x.catchType) rfl
  simp only [covers] at hx
  cases hfit : s0.vm.assignable cell.cls ci <;> rw [hfit] at g3 <;> simp [findHandler.go, hx, h0, ha, ht, hc, ho, g1, g2, g3, VmOp.dirties, VmOp.acts]
/-- what a row of the table says of an object of a class -/
def skR (pl : Platform) (s0 : State) (d k : ClassId) (x : ExceptionTableEntry) (b : Bool) : Prop := x.catchType ≠ 0 ∧ ∃ ci, s0.vm.ClassLinks pl d x.catchType ci ∧ s0.vm.assignable k ci = b
theorem sk_rows {r : ExceptionTableEntry} {rs : List ExceptionTableEntry} (hk0 : ∃ k, s0.vm.classes[cell.cls]? = some k) (ho : ∀ k, cell.vm ≠ .statics k) (hr : skR e.platform s0 f.method.cls cell.cls r true) (hcr : covers r f.pc = true) : ∀ (pre : List ExceptionTableEntry) (S : State), s0.WarmedH S.vm → S.heap[a]? = some cell → (∀ y ∈ pre, covers y f.pc = true ∧ skR e.platform s0 f.method.cls cell.cls y false) → ∃ vm', s0.WarmedH vm' ∧ ∀ (Q : Handler → Pre) (E : CtlPost) (d : Bool) (acts : List Action), wp (findHandler.go f a (pre ++ r :: rs)) Q E e d acts S ↔ Q (.found r.handlerPc) d acts (S.setVm vm')
  | [], S, hW, hc, _ => by
    obtain ⟨h0, ci, hl, hb⟩ := hr
    exact ⟨_, (sk_at hW hl hk0).1, fun Q E d acts => by rw [List.nil_append, sk_row hW hl hk0 hcr h0 hc ho, if_pos hb]⟩
  | y :: ys, S, hW, hc, hp => by
    obtain ⟨hy, h0, ci, hl, hb⟩ := hp y List.mem_cons_self
    obtain ⟨vm', hW', hq⟩ := sk_rows (r := r) (rs := rs) hk0 ho hr hcr ys (S.setVm (S.vm.noted f.method.cls y.catchType (.cls ci))) (sk_at hW hl hk0).1 hc (fun z hz => hp z (List.mem_cons_of_mem _ hz))
    exact ⟨vm', hW', fun Q E d acts => by rw [List.cons_append, sk_row hW hl hk0 hy h0 hc ho, if_neg (by rw [hb]; decide)]; exact hq Q E d acts⟩
end SEEK
/-- the step of the note 'thrown' to the handler -/
theorem sk_caught {p : Program} {l : Launch} {e : Env} {R : Room} {s : State} {m : MethodId} {args : Array Value} {below : List Frame} {meth : Method} {c : Code} {T : State} {locs : List Loc} {cells slots : Nat} (X : Stand p l e R s m args below meth c T locs cells slots) (a : Addr) {g : JFrame} (hg : g.method = m) {cell : Cell} (hcell : T.heap[a]? = some cell) (hobj : cell.vm = .none) (hk0 : ∃ k, s.vm.classes[cell.cls]? = some k) {pre rs : List ExceptionTableEntry} {r : ExceptionTableEntry} (hsplit : c.exceptionTable.toList = pre ++ r :: rs) (hpass : ∀ y ∈ pre, covers y g.pc = true ∧ skR e.platform s m.cls cell.cls y false) (hcr : covers r g.pc = true) (hr : skR e.platform s m.cls cell.cls r true) : ∃ vm', Stand p l e R s m args below meth c (T.setVm vm') locs cells slots ∧ Steps p.tables e below ((T.setTop g).pushFrame (.throwing a)) ((T.setVm vm').setTop { g with pc := r.handlerPc, stack := [.ref a] }) := by
  subst hg
  obtain ⟨vm', hW', hq⟩ := sk_rows (e := e) (s0 := s) (f := g) (a := a) (cell := cell) (rs := rs) hk0 (fun k h => by rw [hobj] at h; cases h) hr hcr pre ((T.setTop g).pushFrame (.throwing a)) X.warmed hcell hpass
  have XV := X.noted hW'
  refine ⟨vm', XV, ?_⟩
  obtain ⟨hgo, hw⟩ := X.here.throwing a
  refine Steps.head hgo hw ?_
  obtain ⟨g₀, hg⟩ := Option.isSome_iff_exists.mp X.here.top
  obtain ⟨fr, hfr⟩ := State.topJava?_eq_some.mp hg
  rw [stepThread_throwing (frames_entered X.here.top _), hfr, List.tail_cons]
  have key : (stepThrowing e ((T.setTop g).pushFrame (.throwing a)) a (.java g :: fr)).1 = (((T.setTop g).pushFrame (.throwing a)).setVm vm').setFrames (.java { g with pc := r.handlerPc, stack := [.ref a] } :: fr) := by
    simp only [stepThrowing, searchFrame, vmDo]
    generalize hres : Sem.go _ e false [] ((T.setTop g).pushFrame (.throwing a)) = res
    have hmm : ((T.setTop g).pushFrame (.throwing a)).vm.method? g.method = some meth := X.method'
    have hfind : ∀ (Q : Handler → Pre) (E : CtlPost) (d : Bool) (acts : List Action), wp (findHandler g a) Q E e d acts ((T.setTop g).pushFrame (.throwing a)) ↔ Q (.found r.handlerPc) d acts (((T.setTop g).pushFrame (.throwing a)).setVm vm') := fun Q E d acts => by
      rw [W.findHandler_eq hmm X.code, hsplit]
      exact hq Q E d acts
    obtain ⟨as, rfl, ha⟩ := Sem.eq_ok_of hres (a := Handler.found r.handlerPc) (s' := ((T.setTop g).pushFrame (.throwing a)).setVm vm') (acts' := []) (by simp [hfind _ _ _ _])
    rfl
  rw [key]
  have h1 : (((T.setTop g).pushFrame (.throwing a)).setVm vm').setFrames (.java { g with pc := r.handlerPc, stack := [.ref a] } :: fr) = (T.setVm vm').setTop { g with pc := r.handlerPc, stack := [.ref a] } := by
    have hfr' : (T.setVm vm').frames = .java g₀ :: fr := hfr
    rw [State.setTop_of_frames _ hfr']
    rw [State.pushFrame, State.setTop_of_frames _ hfr]
    show (((T.setVm vm').setFrames _).setFrames _).setFrames _ = _
    rw [State.setFrames_setFrames, State.setFrames_setFrames]
  rw [h1]
  exact Steps.refl _
/-! A call of a static method whose code has a table of handlers; a call whose callee throws, caught here. -/
section INTO
variable {p : Program} {l : Launch} {e : Env} {R R' : Room} {s : State} {m : MethodId} {args : Array Value} {below : List Frame} {meth : Method} {c : Code} {H : Heap} {locs : List Loc} {cells slots nL pc idx maxL : Nat} {ls : Array Slot} {cc bytes : ByteArray} {y : MethodName} {own : String} {rt : Option FieldType} {tbl : List (Nat × Nat × Nat × Nat)} {As rest : List Value}
theorem w_static {Qc : Array Value → State → Outcome → State → Prop} {free : Addr → Prop} (hx : p.tables.exec = Jvm.exec) (hb : c.code = cc) (hml : c.maxLocals = nL) (hown : s.vm.findClass own = some m.cls) (hlink : (Cond.methodLink own idx y).before args s = true) (hstat : (Cond.static y).before args s = true) (hinit : (Cond.initialized y.cls).before args s = true) (hcw : (Cond.codeWith y bytes maxL rt tbl).before args s = true) (hpn : plainName y.cls = true) (hy : y.cls ≠ "java/lang/invoke/MethodHandle" ∧ y.cls ≠ "java/lang/invoke/VarHandle") (hlen : ∀ sig, parseMethodDescriptor y.desc = some sig → As.length = sig.parameters.length) (hsize : ls.size = nL) (hdg : decode cc pc = .ok (.invokestatic idx, 3)) (hfr : R'.frames + 1 ≤ R.frames) (hlo : (rest.map fun v => v.category).sum + (maxL + 11) + R'.locals ≤ R.locals) (hce : cells + R'.cells ≤ R.cells) (hsl : slots + R'.slots ≤ R.slots)
    (body : ∀ (s2 : State) (mk : MethodId) (methk : Method) (ck : Code) (bel : List Frame), s.WarmedH s2.vm → s2.heap = H → s2.methodNamed? y = some mk → ck.code = bytes → ck.maxLocals = maxL → ck.exceptionTable.toList.map (fun h => (h.startPc, h.endPc, h.handlerPc, h.catchType)) = tbl → methk.sig.returnType = rt → methk.locks = false → W p l e R' s2 mk As.toArray bel methk ck s2.heap [] 0 0 (MQ bel Qc As.toArray s2 R'.cells R'.slots free) (entryFrame mk As.toArray maxL)) :
    va_Run p l e R s m args below meth c H locs cells slots R'.cells R'.slots (F0 m pc ls (As.reverse ++ rest)) rest (Qc As.toArray) free := by
  intro T hT X
  obtain ⟨mk, methM, cM, hnamed, hmethM, -, -, -, -, -, -, hsigM⟩ := Cond.codeWith_spec hcw
  have hstatic : methM.isStatic = true := Cond.static_spec hnamed hmethM hstat
  obtain ⟨kP, hkP, -⟩ := className_of_methodNamed hnamed
  have hinitP : kP.init = .initialized := Cond.initialized_spec (findClass_of_methodNamed hnamed) hkP hinit
  obtain ⟨vm₁, X₁, hstep₁⟩ := X.invokestatic hx hown hlink hnamed hmethM hstatic hkP hinitP hy (g := F0 m pc ls (As.reverse ++ rest)) rfl (argsL := As) (rest := rest) (hlen _ hsigM) rfl (by rw [hb]; exact hdg)
  have hW1 : s.WarmedH (T.setVm vm₁).vm := X₁.warmed
  have hcU : (Cond.codeWith y bytes maxL rt tbl).before args (T.setVm vm₁) = true := word_at hW1 (Or.inl rfl) hcw
  obtain ⟨mk', methk, ck, hn', hmk, hck, hbk, hmlk, htk, hrk, hlk, -⟩ := Cond.codeWith_spec hcU
  have hnU := X₁.named hnamed
  cases hnU.symm.trans hn'
  have hpk : (T.setVm vm₁).plainMethod mk := State.plainMethod.of_name fun k hk => by
    obtain ⟨k', hk', hn⟩ := className_of_methodNamed hnU
    cases hk.symm.trans hk'
    rw [hn]; exact hpn
  obtain ⟨Y₀, hin⟩ := X₁.into (g := F0 m pc ls rest) rfl (hsize.trans hml.symm) (ig := .invokestatic idx) (len := 3) (by rw [hb]; exact hdg) As.toArray (R' := R') hmk hck hlk hpk hfr (by rw [hmlk]; show 2 * 0 + (rest.map fun v => v.category).sum + (maxL + 11) + R'.locals ≤ R.locals; omega) hce hsl
  have hb2 := body ((T.setVm vm₁).calling (F0 m pc ls rest) mk As.toArray) mk methk ck (.java (F0 m pc ls rest) :: below) hW1 hT hnU hbk hmlk htk hrk hlk
  obtain ⟨t, st, o, hrun, hend, hq, L, hfe, hL⟩ := hb2 _ (by rfl) Y₀
  obtain ⟨⟨v, rfl⟩, hWt, hsame⟩ := hfe
  obtain ⟨T', X', hW', -, ht⟩ := X₁.outOf (g := F0 m pc ls rest) rfl (ig := .invokestatic idx) (len := 3) (by rw [hb]; exact hdg) hend hWt hsame
  refine ⟨v, (T.setVm vm₁).calling (F0 m pc ls rest) mk As.toArray, t, T', L, hT, X', hL, (congrArg State.heap ht).symm, (congrArg State.vm ht).symm, hq, fun target h => hstep₁ _ fun acts => ?_⟩
  rw [hin acts]
  rw [← hmlk] at st
  refine (Steps.weaken (mid := [.java (F0 m pc ls rest)]) st).trans ?_
  rw [ht]
  exact h
theorem w_vcatch {Q : State → Prop} {C X1 : String} {b : Addr} {pre rows : List ExceptionTableEntry} {row : ExceptionTableEntry} (hx : p.tables.exec = Jvm.exec) (hb : c.code = cc) (hml : c.maxLocals = nL) (hown : s.vm.findClass own = some m.cls) (hlink : (Cond.methodLink own idx y).before args s = true) (hinst : (Cond.instanceMethod y).before args s = true) (hsel : (Cond.selects C y y).before args s = true) (hcode : (Cond.code y bytes maxL rt).before args s = true) (hpn : plainName y.cls = true) (hy : y.cls ≠ "java/lang/invoke/MethodHandle" ∧ y.cls ≠ "java/lang/invoke/VarHandle") (hlen : ∀ sig, parseMethodDescriptor y.desc = some sig → As.length = sig.parameters.length) (hsize : ls.size = nL) (hdg : decode cc pc = .ok (.invokevirtual idx, 3)) (hrecv : ∃ cell : Cell, H[b]? = some cell ∧ cell.vm.isStatics = false ∧ s.vm.findClass C = some cell.cls) (hfr : rm_thr.frames + 1 ≤ R.frames) (hlo : (rest.map fun v => v.category).sum + (maxL + 11) + rm_thr.locals ≤ R.locals) (hce : cells + 1 ≤ R.cells) (hsl : slots + 6 ≤ R.slots)
    (hsplit : c.exceptionTable.toList = pre ++ row :: rows) (hpass : ∀ z ∈ pre, covers z pc = true ∧ z.catchType ≠ 0 ∧ ∃ n : String, (Cond.classLink own z.catchType n).before args s = true ∧ ∀ k k', s.vm.findClass X1 = some k → s.vm.findClass n = some k' → s.vm.assignable k k' = false) (hcov : covers row pc = true) (h0 : row.catchType ≠ 0) (hcl : (Cond.classLink own row.catchType X1).before args s = true)
    (body : ∀ (s2 : State) (mk : MethodId) (methk : Method) (ck : Code) (bel : List Frame), s.WarmedH s2.vm → s2.heap = H → s2.methodNamed? y = some mk → ck.code = bytes → ck.maxLocals = maxL → ck.exceptionTable.toList = [] → methk.locks = false → W p l e rm_thr s2 mk (Value.ref b :: As).toArray bel methk ck s2.heap [] 0 0 (QT s2 bel X1) (entryFrame mk (Value.ref b :: As).toArray maxL))
    (k : ∀ (H' : Heap) (q : Nat), (∀ a : Nat, a < H.size → H'[a]? = H[a]?) → H.size ≤ H'.size → W p l e R s m args below meth c H' locs (cells + 1) (slots + 6) Q (F0 m row.handlerPc ls [.ref q])) :
    W p l e R s m args below meth c H locs cells slots Q (F0 m pc ls (As.reverse ++ .ref b :: rest)) := by
  intro T hT X
  obtain ⟨mk, methM, hnamed, hmethM, hstM, habM⟩ := Cond.instanceMethod_spec hinst
  obtain ⟨methM', cM, hmethM', -, -, -, -, -, -, hsigM⟩ := Cond.code_spec hnamed hcode
  cases hmethM.symm.trans hmethM'
  obtain ⟨cellB, hcell, hobj, hcls⟩ := hrecv
  obtain ⟨c2, r2, m2, q1, q2, q3, q4, kP, hkP, hkPi⟩ := Cond.selects_spec hsel
  cases hcls.symm.trans q1
  cases (State.methodFound?_of_named hnamed hy).symm.trans q2
  cases hnamed.symm.trans q3
  have hselP : selectMethod e.platform s.vm cellB.cls mk = .method mk := by rw [Launch.admits_selectMethod X.admits]; exact q4
  obtain ⟨vm₁, X₁, hstep₁⟩ := X.invokevirtual hx hown hlink hnamed hmethM hstM hkP hkPi hy (a := b) (cell := cellB) (by rw [hT]; exact hcell)
    (fun z h => by rw [h] at hobj; cases hobj) hselP hmethM habM hkP hkPi (g := F0 m pc ls (As.reverse ++ .ref b :: rest)) rfl (argsL := As) (rest := rest) (hlen _ hsigM) rfl (by rw [hb]; exact hdg)
  have hW1 : s.WarmedH (T.setVm vm₁).vm := X₁.warmed
  have hcU : (Cond.code y bytes maxL rt).before args (T.setVm vm₁) = true := word_at hW1 (Or.inl rfl) hcode
  have hnU := X₁.named hnamed
  obtain ⟨methk, ck, hmk, hck, hbk, hmlk, hrk, hlk, htk, -⟩ := Cond.code_spec hnU hcU
  have hpk : (T.setVm vm₁).plainMethod mk := State.plainMethod.of_name fun k hk => by
    obtain ⟨k', hk', hn⟩ := className_of_methodNamed hnU
    cases hk.symm.trans hk'
    rw [hn]; exact hpn
  obtain ⟨Y₀, hin⟩ := X₁.into (g := F0 m pc ls rest) rfl (hsize.trans hml.symm) (ig := .invokevirtual idx) (len := 3) (by rw [hb]; exact hdg) (Value.ref b :: As).toArray (R' := rm_thr) hmk hck hlk hpk hfr (by rw [hmlk]; show 2 * 0 + (rest.map fun v => v.category).sum + (maxL + 11) + rm_thr.locals ≤ R.locals; omega) hce hsl
  have hb2 := body ((T.setVm vm₁).calling (F0 m pc ls rest) mk (Value.ref b :: As).toArray) mk methk ck (.java (F0 m pc ls rest) :: below) hW1 hT hnU hbk hmlk (by rw [Array.isEmpty_iff.mp htk]) hlk
  obtain ⟨t, st, q, ce, hrun, hend, hWt, hsame, hce', hvm, hfX, hq⟩ := hb2 _ (by rfl) Y₀
  obtain ⟨T', X', hW', hB, ht⟩ := X₁.outOfThrown (g := F0 m pc ls rest) rfl hend hWt hsame
  have hheap : T'.heap = t.heap := (congrArg State.heap ht).symm
  have hfX' : s.vm.findClass X1 = some ce.cls := by
    have := hW1.alike.findClass X1 none
    rw [← this]; exact hfX
  have hasg : s.vm.assignable ce.cls ce.cls = true := by
    show s.vm.assignableAux (255 + 1) ce.cls ce.cls = true
    rw [Vm.assignableAux, Bool.or_eq_true, beq_iff_eq]
    exact Or.inl rfl
  have hpl : e.platform.magicAccessors = ({} : Platform).magicAccessors := by rw [X.admits.platform]
  obtain ⟨cr, hcr, hlr⟩ := Cond.classLink_spec hown hcl e.platform hpl
  cases hfX'.symm.trans hcr
  have hcome : Steps p.tables e below (T.setTop (F0 m pc ls (As.reverse ++ .ref b :: rest))) ((T'.setTop (F0 m pc ls rest)).pushFrame (.throwing q)) := hstep₁ _ fun acts => by
    rw [hin acts, ← ht]
    rw [← hmlk] at st
    exact Steps.weaken (mid := [.java (F0 m pc ls rest)]) st
  obtain ⟨vm', XV, stV⟩ := sk_caught X' q (g := F0 m pc ls rest) rfl (cell := ce) (by rw [hheap]; exact hce') hvm (Vm.classAt_of_findClass hfX') hsplit (fun z hz => by
    obtain ⟨zc, z0, n, z1, z2⟩ := hpass z hz
    obtain ⟨c', hc', hcl'⟩ := Cond.classLink_spec hown z1 e.platform hpl
    exact ⟨zc, z0, c', hcl', z2 _ _ hfX' hc'⟩) hcov ⟨h0, _, hlr, hasg⟩
  rw [List.append_nil] at XV
  have hold : ∀ a : Nat, a < H.size → T'.heap[a]? = H[a]? := fun a ha => by
    have e1 : (T.setVm vm₁).heap[a]? = some H[a] := by
      show T.heap[a]? = _
      rw [hT]; exact Array.getElem?_eq_getElem ha
    have e2 := hB.old_cell e1
    rw [show T'.heap[a]? = some H[a] from e2, Array.getElem?_eq_getElem ha]
  have hsz : H.size ≤ T'.heap.size := by
    rcases Nat.eq_zero_or_pos H.size with z | z
    · omega
    · have h1 : H.size - 1 < H.size := by omega
      have h2 := hold _ h1
      rw [Array.getElem?_eq_getElem h1] at h2
      have := (Array.getElem?_eq_some_iff.mp h2).1
      omega
  obtain ⟨t2, a1, b1⟩ := k T'.heap q hold hsz (T'.setVm vm') rfl XV
  exact ⟨t2, hcome.trans (stV.trans a1), b1⟩
end INTO
