/-! A layer for constructors: a world that grows, a list of cells. -/
def nestL : List (String × Nat × MethodName) := [(RX11, 11, yX8_init), (RX11, 39, yX1_init), (RX11, 46, yX3_init), (RX11, 53, yX2_init), (RX11, 60, yX6_init), (RX11, 67, yX0_init), (RX9, 17, yX0_init), (RX10, 19, yX5_init), (RX10, 34, yX0_init)]
def NW (U : State) : Prop := va_AO "LaughDrum$Box" U ∧ ∀ q ∈ nestL, va_Nw (.methodLinkNest q.1 q.2.1 q.2.2 RX11) U
theorem NW.warm {s U : State} (hW : s.WarmedH U.vm) (h : NW s) : NW U := ⟨va_AO.moved hW.alike h.1, fun q hq => va_Nw.warmM hW (h.2 q hq)⟩
theorem NW.same {s U : State} (hv : s.vm = U.vm) (h : NW s) : NW U := ⟨va_AO.moved (by rw [hv]; exact Vm.Alike.refl _) h.1, fun q hq => va_Nw.same rfl hv (h.2 q hq)⟩
abbrev Nx : Type := Program × Launch × Env × Room × State × MethodId × Array Value × List Frame × Method × Code × va_G × (Nat → ClassId) × (Nat → Prop) × Nat × (State → Prop)
def N (x : Nx) (pc : Nat) (L : List (Nat × Value)) (st : List Value) (ws : va_W) (cells slots : Nat) : Prop := match x with
  | (p, l, e, R, s, m, args, below, meth, c, D, _, A, nL, Q) => ∀ (H : Heap) (locs : List Loc) (ls : Array Slot), va_P D vwCl ws H → va_D A ws → va_S A s.heap H locs → lv_has ls nL L → W p l e R s m args below meth c H locs cells slots Q (F0 m pc ls st)
def Cn (x : Nx) (l0 : Launch) (own : String) (cc : ByteArray) (rm : Room) (nL0 : Nat) (cy0 : Nat → ClassId) (mc ms : Nat) (post : va_W → Prop) : Prop := match x with
  | (p, l, _, R, s, m, args, below, meth, c, D, cy, A, nL, Q) => p.tables.exec = Jvm.exec ∧ c.code = cc ∧ c.maxLocals = nL ∧ s.vm.findClass own = some m.cls ∧ (∀ w ∈ wU, w.before args s = true) ∧ va_K D vwCl (tysU cy0) s ∧ meth.locks = false ∧ R = rm ∧ meth.sig.returnType = none ∧ (∀ q, s.heap.size ≤ q → A q) ∧ NW s ∧ Zs A s s.heap ∧ l = l0 ∧ nL = nL0 ∧ meth.name = "<init>" ∧ cy = cy0 ∧ Q = MQ below (va_Qv post (fun w1 t => va_P D vwCl w1 t.heap ∧ va_D A w1) A) args s mc ms A
/-- a constructor's contract: its world at the start, what its world is at the end -/
def CC (l : Launch) (y : MethodName) (cc : ByteArray) (maxL : Nat) (rm : Room) (mc ms : Nat) (wc : va_W) (As : List Value) (post : (Nat → ClassId) → va_W → Prop) : Prop :=
  ∀ (D : va_G) (cy : Nat → ClassId) (sz : Nat), Met l y (Cond.code y cc maxL none :: wU) rm (va_Pc As (fun U => U.heap.size = sz ∧ va_P D vwCl wc U.heap ∧ va_K D vwCl (tysU cy) U ∧ va_D (fun _ => True) wc ∧ NW U ∧ Zs (va_A wc sz) U U.heap)) (va_Qv (post cy) (fun w1 t => va_P D vwCl w1 t.heap ∧ va_D (va_A wc sz) w1) (va_A wc sz)) mc ms (va_A wc sz)
theorem CC.of {l : Launch} {y : MethodName} {cc : ByteArray} {maxL : Nat} {rm : Room} {mc ms : Nat} {wc : va_W} {As : List Value} {post : (Nat → ClassId) → va_W → Prop} (own : String) (hown : y.cls = own) (hin : y.name = "<init>") (hy : plainName y.cls = true) (hn : (lg_sl As).length ≤ maxL)
    (k : ∀ (cy : Nat → ClassId) (x : Nx), Cn x l own cc rm maxL cy mc ms (post cy) → N x 0 (lv_args 0 As) [] wc 0 0) : CC l y cc maxL rm mc ms wc As post := by
  intro D cy sz
  refine Met.ofW (cc := cc) (maxL := maxL) (ret := none) hy rfl ?_
  intro p e s m args below meth c s₁ B hml hv
  obtain ⟨rfl, hsz, hP, hK, hD, hN, hZ⟩ := hv
  have hts := atoms_spec (ws := Cond.code y cc maxL none :: wU) B.pre
  have ho : s.vm.findClass own = some m.cls := by rw [← hown]; exact findClass_of_methodNamed B.named
  have hnm : meth.name = "<init>" := (name_of_methodNamed B.named B.method).1.trans hin
  subst hsz
  have hl := lv_entry As (n := maxL) hn
  rw [lg_entry_eq]
  have X := k cy (p, l, e, rm, s, m, As.toArray, below, meth, c, D, cy, va_A wc s.heap.size, maxL, MQ below (va_Qv (post cy) (fun w1 t => va_P D vwCl w1 t.heap ∧ va_D (va_A wc s.heap.size) w1) (va_A wc s.heap.size)) As.toArray s mc ms (va_A wc s.heap.size)) ⟨B.exec, B.bytes, hml, ho, fun w hw => hts w (List.mem_cons_of_mem _ hw), hK, B.notSynchronized, rfl, B.returns, fun q hq => Or.inr hq, hN, hZ, rfl, rfl, hnm, rfl, rfl⟩
  exact X s.heap [] _ hP hD.self va_S.rf hl
section NRULES
variable {x : Nx} {l0 : Launch} {own : String} {cc : ByteArray} {rm : Room} {nL0 : Nat} {cy : Nat → ClassId} {mc0 ms0 : Nat} {post0 : va_W → Prop} {pc : Nat} {L : List (Nat × Value)} {st : List Value} {ws : va_W} {cells slots : Nat}
theorem n_eq {pc' : Nat} {ws' : va_W} {cells' slots' : Nat} (h1 : pc = pc') (h2 : ws = ws') (h3 : cells = cells') (h4 : slots = slots') (k : N x pc' L st ws' cells' slots') : N x pc L st ws cells slots := by subst h1; subst h2; subst h3; subst h4; exact k
theorem n_vret (C : Cn x l0 own cc rm nL0 cy mc0 ms0 post0) (d : decode cc pc = .ok (.return_, 1)) (h1 : cells = mc0) (h2 : slots = ms0) (hp : post0 ws) : N x pc L [] ws cells slots := by
  subst h1; subst h2
  obtain ⟨p, l, e, R, s, m, args, below, meth, c, D, cy', A, nL, Q⟩ := x
  obtain ⟨hx, hb, hml, hown, hts, hK, hlk, hR, hret, hA, hN, hZ, hl0, hnL, hnm, hcy, hQ⟩ := C
  intro H locs ls hP hD hS hl
  rw [hQ]
  exact W.vret hx hb hret (fun t ht hW => ⟨⟨ws, rfl, hp, by rw [ht]; exact hP, hD⟩, hS.F ht⟩) hS.2.2 d hlk
theorem n_aload {i : Fin 4} {q i0 : Nat} {v : Nat} (C : Cn x l0 own cc rm nL0 cy mc0 ms0 post0) (d : decode cc pc = .ok (.aload_n i, 1)) (hi : (i : Nat) = i0) (hq : L[q]? = some (i0, .ref v)) (k : N x (pc + 1) L (.ref v :: st) ws cells slots) : N x pc L st ws cells slots := by
  obtain ⟨p, l, e, R, s, m, args, below, meth, c, D, cy', A, nL, Q⟩ := x
  obtain ⟨hx, hb, hml, hown, hts, hK, hlk, hR, hret, hA, hN, hZ, hl0, hnL, hnm, hcy, hQ⟩ := C
  intro H locs ls hP hD hS hl
  exact lv_aload_n hx hb d hi (lv_at hl q hq) (k H locs ls hP hD hS hl)
theorem n_iconst {n : Int} {v : Int32} (C : Cn x l0 own cc rm nL0 cy mc0 ms0 post0) (d : decode cc pc = .ok (.iconst n, 1)) (hv : Int32.ofInt n = v) (k : N x (pc + 1) L (.int v :: st) ws cells slots) : N x pc L st ws cells slots := by
  obtain ⟨p, l, e, R, s, m, args, below, meth, c, D, cy', A, nL, Q⟩ := x
  obtain ⟨hx, hb, hml, hown, hts, hK, hlk, hR, hret, hA, hN, hZ, hl0, hnL, hnm, hcy, hQ⟩ := C
  intro H locs ls hP hD hS hl
  exact lv_iconst hx hb d hv (k H locs ls hP hD hS hl)
theorem n_bipush {n : Int} {v : Int32} (C : Cn x l0 own cc rm nL0 cy mc0 ms0 post0) (d : decode cc pc = .ok (.bipush n, 2)) (hv : (Int8.ofInt n).toInt32 = v) (k : N x (pc + 2) L (.int v :: st) ws cells slots) : N x pc L st ws cells slots := by
  obtain ⟨p, l, e, R, s, m, args, below, meth, c, D, cy', A, nL, Q⟩ := x
  obtain ⟨hx, hb, hml, hown, hts, hK, hlk, hR, hret, hA, hN, hZ, hl0, hnL, hnm, hcy, hQ⟩ := C
  intro H locs ls hP hD hS hl
  exact lv_bipush hx hb d hv (k H locs ls hP hD hS hl)
theorem n_sipush {n : Int} {v : Int32} (C : Cn x l0 own cc rm nL0 cy mc0 ms0 post0) (d : decode cc pc = .ok (.sipush n, 3)) (hv : (Int16.ofInt n).toInt32 = v) (k : N x (pc + 3) L (.int v :: st) ws cells slots) : N x pc L st ws cells slots := by
  obtain ⟨p, l, e, R, s, m, args, below, meth, c, D, cy', A, nL, Q⟩ := x
  obtain ⟨hx, hb, hml, hown, hts, hK, hlk, hR, hret, hA, hN, hZ, hl0, hnL, hnm, hcy, hQ⟩ := C
  intro H locs ls hP hD hS hl
  exact lv_sipush hx hb d hv (k H locs ls hP hD hS hl)
theorem n_dup {v : Value} (C : Cn x l0 own cc rm nL0 cy mc0 ms0 post0) (d : decode cc pc = .ok (.dup, 1)) (hv : v.category = 1) (k : N x (pc + 1) L (v :: v :: st) ws cells slots) : N x pc L (v :: st) ws cells slots := by
  obtain ⟨p, l, e, R, s, m, args, below, meth, c, D, cy', A, nL, Q⟩ := x
  obtain ⟨hx, hb, hml, hown, hts, hK, hlk, hR, hret, hA, hN, hZ, hl0, hnL, hnm, hcy, hQ⟩ := C
  intro H locs ls hP hD hS hl
  exact lv_dup hx hb d hv (k H locs ls hP hD hS hl)
theorem n_iload {i : Fin 4} {q i0 : Nat} {v : Int32} (C : Cn x l0 own cc rm nL0 cy mc0 ms0 post0) (d : decode cc pc = .ok (.iload_n i, 1)) (hi : (i : Nat) = i0) (hq : L[q]? = some (i0, .int v)) (k : N x (pc + 1) L (.int v :: st) ws cells slots) : N x pc L st ws cells slots := by
  obtain ⟨p, l, e, R, s, m, args, below, meth, c, D, cy', A, nL, Q⟩ := x
  obtain ⟨hx, hb, hml, hown, hts, hK, hlk, hR, hret, hA, hN, hZ, hl0, hnL, hnm, hcy, hQ⟩ := C
  intro H locs ls hP hD hS hl
  exact lv_iload_n hx hb d hi (lv_at hl q hq) (k H locs ls hP hD hS hl)
theorem n_istore {i : Fin 4} {i0 : Nat} {v : Int32} {L' : List (Nat × Value)} (C : Cn x l0 own cc rm nL0 cy mc0 ms0 post0) (d : decode cc pc = .ok (.istore_n i, 1)) (hi : (i : Nat) = i0) (hn : i0 < nL0) (hL : (i0, Value.int v) :: L.filter (fun q => !(q.1 == i0) && !(q.1 + 1 == i0 && q.2.category == 2)) = L') (k : N x (pc + 1) L' st ws cells slots) : N x pc L (Value.int v :: st) ws cells slots := by
  obtain ⟨p, l, e, R, s, m, args, below, meth, c, D, cy', A, nL, Q⟩ := x
  obtain ⟨hx, hb, hml, hown, hts, hK, hlk, hR, hret, hA, hN, hZ, hl0, hnL, hnm, hcy, hQ⟩ := C
  intro H locs ls hP hD hS hl
  subst hnL
  exact lv_istore_n hx hb d hi hl hn hL (fun ls' hl' => k H locs ls' hP hD hS hl')
theorem n_iinc {i0 q : Nat} {n : Int} {a v : Int32} {L' : List (Nat × Value)} (C : Cn x l0 own cc rm nL0 cy mc0 ms0 post0) (d : decode cc pc = .ok (.iinc i0 n, 3)) (hq : L[q]? = some (i0, .int a)) (hv : a + Int32.ofInt n = v) (hn : i0 < nL0) (hL : (i0, Value.int v) :: L.filter (fun q => !(q.1 == i0) && !(q.1 + 1 == i0 && q.2.category == 2)) = L') (k : N x (pc + 3) L' st ws cells slots) : N x pc L st ws cells slots := by
  obtain ⟨p, l, e, R, s, m, args, below, meth, c, D, cy', A, nL, Q⟩ := x
  obtain ⟨hx, hb, hml, hown, hts, hK, hlk, hR, hret, hA, hN, hZ, hl0, hnL, hnm, hcy, hQ⟩ := C
  intro H locs ls hP hD hS hl
  subst hnL
  exact lv_iinc hx hb d hl hq hv hn hL (fun ls' hl' => k H locs ls' hP hD hS hl')
theorem n_goto {off : Int} {tgt : Nat} (C : Cn x l0 own cc rm nL0 cy mc0 ms0 post0) (d : decode cc pc = .ok (.goto off, 3)) (ht : (pc : Int) + off = (tgt : Int)) (k : N x tgt L st ws cells slots) : N x pc L st ws cells slots := by
  obtain ⟨p, l, e, R, s, m, args, below, meth, c, D, cy', A, nL, Q⟩ := x
  obtain ⟨hx, hb, hml, hown, hts, hK, hlk, hR, hret, hA, hN, hZ, hl0, hnL, hnm, hcy, hQ⟩ := C
  intro H locs ls hP hD hS hl
  exact lv_goto hx hb d ht (k H locs ls hP hD hS hl)
theorem n_ge_t {a b : Int32} {off : Int} {tgt : Nat} (C : Cn x l0 own cc rm nL0 cy mc0 ms0 post0) (d : decode cc pc = .ok (.if_icmp .ge off, 3)) (ht : (pc : Int) + off = (tgt : Int)) (hc : b ≤ a) (k : N x tgt L st ws cells slots) : N x pc L (.int b :: .int a :: st) ws cells slots := by
  obtain ⟨p, l, e, R, s, m, args, below, meth, c, D, cy', A, nL, Q⟩ := x
  obtain ⟨hx, hb, hml, hown, hts, hK, hlk, hR, hret, hA, hN, hZ, hl0, hnL, hnm, hcy, hQ⟩ := C
  intro H locs ls hP hD hS hl
  exact lv_icmp_ge hx hb d ht (fun q => k H locs ls hP hD hS hl) (fun q => absurd hc q)
theorem n_ge_f {a b : Int32} {off : Int} {tgt : Nat} (C : Cn x l0 own cc rm nL0 cy mc0 ms0 post0) (d : decode cc pc = .ok (.if_icmp .ge off, 3)) (ht : (pc : Int) + off = (tgt : Int)) (hc : ¬ b ≤ a) (k : N x (pc + 3) L st ws cells slots) : N x pc L (.int b :: .int a :: st) ws cells slots := by
  obtain ⟨p, l, e, R, s, m, args, below, meth, c, D, cy', A, nL, Q⟩ := x
  obtain ⟨hx, hb, hml, hown, hts, hK, hlk, hR, hret, hA, hN, hZ, hl0, hnL, hnm, hcy, hQ⟩ := C
  intro H locs ls hP hD hS hl
  exact lv_icmp_ge hx hb d ht (fun q => absurd q hc) (fun q => k H locs ls hP hD hS hl)
/-- Object's constructor -/
theorem n_obj {idx b : Nat} (C : Cn x l0 own cc rm nL0 cy mc0 ms0 post0) (d : decode cc pc = .ok (.invokespecial idx, 3)) (hm : Cond.methodLink own idx objectInit ∈ wU) (h1 : Cond.instanceMethod objectInit ∈ wU) (h2 : Cond.code objectInit ⟨#[0xb1]⟩ 1 none ∈ wU) (hf : 1 ≤ rm.frames) (hlc : 12 ≤ rm.locals) (k : N x (pc + 3) L [] ws cells slots) : N x pc L [.ref b] ws cells slots := by
  obtain ⟨p, l, e, R, s, m, args, below, meth, c, D, cy', A, nL, Q⟩ := x
  obtain ⟨hx, hb, hml, hown, hts, hK, hlk, hR, hret, hA, hN, hZ, hl0, hnL, hnm, hcy, hQ⟩ := C
  intro H locs ls hP hD hS hl
  subst hR
  exact W.objInit hx hb hown (hts _ hm) (hts _ h1) (hts _ h2) rfl (by rw [hml]; exact hl.1) rfl d hf (by simpa [JFrame.monitorRoom] using hlc) (k H locs ls hP hD hS hl)
end NRULES
