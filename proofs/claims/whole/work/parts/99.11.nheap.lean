/-! The layer for constructors: cells made, fields and places written, calls. -/
theorem va_RA_eq {U : State} {a b : ClassId} {ty : FieldType} (h1 : va_RA U a ty) (h2 : va_RA U b ty) : a = b := by
  cases ty with
  | object C =>
    obtain ⟨_, _, _, _, _, e1⟩ := h1
    obtain ⟨_, _, _, _, _, e2⟩ := h2
    exact Option.some.inj (e1.symm.trans e2)
  | _ => exact Option.some.inj ((show U.vm.findClass _ = some a from h1).symm.trans (show U.vm.findClass _ = some b from h2))
theorem pre_at {α : Type} {w1 w2 : List α} {k : Nat} {q : α} (h : w1[k]? = some q) : (w1 ++ w2)[k]? = some q := by
  rw [List.getElem?_append_left (List.getElem?_eq_some_iff.mp h).1]; exact h
theorem last_at {α : Type} {w1 : List α} {q : α} : (w1 ++ [q])[w1.length]? = some q := by
  rw [List.getElem?_append_right (Nat.le_refl _), Nat.sub_self]; rfl
theorem va_D.pre {A : Nat → Prop} {w1 w2 : va_W} (h : va_D A (w1 ++ w2)) : va_D A w1 := ⟨fun i j p q hp hq e => h.1 i j p q (pre_at hp) (pre_at hq) e, fun k q hk => h.2 k q (pre_at hk)⟩
/-- what the tables say of a class whose object is made -/
def Kw (own : String) (index ci : Nat) (fs : List Value) : Prop := ∃ (CN : String) (T : u_T) (ty0 : Nat → FieldType), vwCl[ci]? = some (CN, T, nF ci) ∧ (∀ w ∈ u_ws CN T (nF ci), w ∈ wU) ∧ (∀ k, k < nF ci → parseFieldDescriptor (T k).2.2.1 = some (ty0 k)) ∧ Cond.classLink own index CN ∈ wU ∧ Cond.instantiable CN (nF ci) ∈ wU ∧ Cond.initialized CN ∈ wU ∧ ∀ j, j < nF ci → defaultValue (ty0 j) = vp_V fs j
/-- a field that a constructor may write -/
def Fc (own : String) (index ci k : Nat) (ty : FieldType) : Prop := ∃ (CN : String) (T : u_T) (ty0 : Nat → FieldType), vwCl[ci]? = some (CN, T, nF ci) ∧ k < nF ci ∧ (∀ w ∈ u_ws CN T (nF ci), w ∈ wU) ∧ Cond.fieldLink own index (T k).1 (T k).2.1 (T k).2.2.1 ∈ wU ∧ (∀ k, k < nF ci → parseFieldDescriptor (T k).2.2.1 = some (ty0 k)) ∧ (∀ a, a < nF ci → ∀ b, b < nF ci → a ≠ b → (T a).2.1 ≠ (T b).2.1) ∧ (T k).1 = own ∧ parseFieldDescriptor (T k).2.2.1 = some ty
section NHEAP
variable {x : Nx} {l0 : Launch} {own : String} {cc : ByteArray} {rm : Room} {nL0 : Nat} {cy : Nat → ClassId} {mc0 ms0 : Nat} {post0 : va_W → Prop} {pc : Nat} {L : List (Nat × Value)} {st : List Value} {ws : va_W} {cells slots : Nat}
theorem n_new {index ci : Nat} {fs : List Value} (C : Cn x l0 own cc rm nL0 cy mc0 ms0 post0) (d : decode cc pc = .ok (.new index, 3)) (F : Kw own index ci fs) (hc : cells + 1 ≤ rm.cells) (hs : slots + nF ci ≤ rm.slots) (k : ∀ q, N x (pc + 3) L (.ref q :: st) (ws ++ [(q, .inr (ci, fs))]) (cells + 1) (slots + nF ci)) : N x pc L st ws cells slots := by
  obtain ⟨p, l, e, R, s, m, args, below, meth, c, D, cy', A, nL, Q⟩ := x
  obtain ⟨hx, hb, hml, hown, hts, hK, hlk, hR, hret, hA, hN, hZ, hl0, hnL, hnm, hcy, hQ⟩ := C
  obtain ⟨CN, T, ty0, f1, f2, f3, f4, f5, f6, f7⟩ := F
  intro H locs ls hP hD hS hl
  subst hR
  exact va_new (ci := ci) (fs := fs) (C := CN) (T := T) (N := nF ci) hx hb hts f2 ty0 f3 hown (hts _ f4) (hts _ f5) (hts _ f6) hK hP hD hS hA f1 f7 hc hs d (fun q H1 hP1 hD1 hS1 => k q H1 locs ls hP1 hD1 hS1 hl)
theorem n_newa {atype : ArrayType} {ty : FieldType} {n : Int32} {N' t0 : Nat} {a0 : vp_A} {cA0 : ClassId} (C : Cn x l0 own cc rm nL0 cy mc0 ms0 post0) (d : decode cc pc = .ok (.newarray atype, 2)) (hw : Cond.arrayClass (newarray.typeOf atype) ∈ wU) (hty : newarray.typeOf atype = ty) (ht : (tysU cy)[t0]? = some (cA0, ty)) (ha : ∀ cA : ClassId, vp_cell cA a0 = arrV cA N' (fun _ => defaultValue ty)) (hn : ¬ n < 0) (hN' : n.toNatClampNeg = N') (hb : N' * componentBytes ty ≤ 536870912) (hc : cells + 1 ≤ rm.cells) (hs : slots + N' ≤ rm.slots) (k : ∀ q, N x (pc + 2) L (.ref q :: st) (ws ++ [(q, .inl (cA0, a0))]) (cells + 1) (slots + N')) : N x pc L (.int n :: st) ws cells slots := by
  obtain ⟨p, l, e, R, s, m, args, below, meth, c, D, cy', A, nL, Q⟩ := x
  obtain ⟨hx, hb', hml, hown, hts, hK, hlk, hR, hret, hA, hN, hZ, hl0, hnL, hnm, hcy, hQ⟩ := C
  intro H locs ls hP hD hS hl
  subst hR
  refine va_newa (atype := atype) (a0 := a0) hx hb' (hts _ hw) hty hK hP hD hS hA ha hn hN' hb hc hs d (fun q cA H1 hK1 hP1 hD1 hS1 => ?_)
  have e1 : cA = cA0 := va_RA_eq (hK1.2 (tysU cy).length _ last_at).2 (hK.2 t0 _ ht).2
  subst e1
  exact k q H1 locs ls hP1 hD1 hS1 hl
theorem n_newq {index : Nat} {n : Int32} {N' : Nat} (C : Cn x l0 own cc rm nL0 cy mc0 ms0 post0) (d : decode cc pc = .ok (.anewarray index, 3)) (hw : Cond.classLink own index "LaughDrum$Box" ∈ wU) (hn : ¬ n < 0) (hN' : n.toNatClampNeg = N') (hb : N' * 4 ≤ 536870912) (hc : cells + 1 ≤ rm.cells) (hs : slots + N' ≤ rm.slots) (k : ∀ q, N x (pc + 3) L (.ref q :: st) (ws ++ [(q, .inl (cy 4, N', .inr (.inr (.inr (.inr (fun _ => none))))))]) (cells + 1) (slots + N')) : N x pc L (.int n :: st) ws cells slots := by
  obtain ⟨p, l, e, R, s, m, args, below, meth, c, D, cy', A, nL, Q⟩ := x
  obtain ⟨hx, hb', hml, hown, hts, hK, hlk, hR, hret, hA, hN, hZ, hl0, hnL, hnm, hcy, hQ⟩ := C
  intro H locs ls hP hD hS hl
  subst hR
  refine va_newq hx hb' hown (hts _ hw) hN.1 hK hP hD hS hA hn hN' hb hc hs d (fun q cA H1 hK1 hP1 hD1 hS1 => ?_)
  have e1 : cA = cy 4 := va_RA_eq (hK1.2 (tysU cy).length _ last_at).2 (hK.2 4 (cy 4, .object "LaughDrum$Box") rfl).2
  subst e1
  exact k q H1 locs ls hP1 hD1 hS1 hl
theorem n_put {index ci k a q0 : Nat} {ty : FieldType} {v : Value} {fs : List Value} {ws' : va_W} (C : Cn x l0 own cc rm nL0 cy mc0 ms0 post0) (d : decode cc pc = .ok (.putfield index, 3)) (F : Fc own index ci k ty) (he : ws[q0]? = some (a, .inr (ci, fs))) (hn : narrow ty v = v) (hf : fits ty v = true) (hl' : k < fs.length) (hw : ws.set q0 (a, .inr (ci, fs.set k v)) = ws') (kk : N x (pc + 3) L st ws' cells slots) : N x pc L (v :: .ref a :: st) ws cells slots := by
  subst hw
  obtain ⟨p, l, e, R, s, m, args, below, meth, c, D, cy', A, nL, Q⟩ := x
  obtain ⟨hx, hb, hml, hown, hts, hK, hlk, hR, hret, hA, hN, hZ, hl0, hnL, hnm, hcy, hQ⟩ := C
  obtain ⟨CN, T, ty0, f1, f2, f3, f4, f5, f6, f7, f8⟩ := F
  intro H locs ls hP hD hS hl
  cases hfin : (T k).2.2.2 with
  | false => exact va_put (ref := (T k).1) (C := CN) (T := T) (N := nF ci) hx hb hts f3 ty0 f5 f6 hown hK hP hD hS q0 he f1 k f2 (hts _ f4) (fun _ q => q) hfin f8 hn hf hl' d (fun H1 locs1 hP1 hD1 hS1 => kk H1 locs1 ls hP1 hD1 hS1 hl)
  | true => exact va_putF (ref := (T k).1) (C := CN) (T := T) (N := nF ci) hx hb hts f3 ty0 f5 f6 hown hK hP hD hS q0 he f1 k f2 (hts _ f4) (fun _ q => q) hfin hnm f7 f8 hn hf hl' d (fun H1 locs1 hP1 hD1 hS1 => kk H1 locs1 ls hP1 hD1 hS1 hl)
theorem n_get {index ci k a q0 : Nat} {v : Value} {fs : List Value} (C : Cn x l0 own cc rm nL0 cy mc0 ms0 post0) (d : decode cc pc = .ok (.getfield index, 3)) (F : Fl own index ci k) (he : ws[q0]? = some (a, .inr (ci, fs))) (hv : fs[k]? = some v) (kk : N x (pc + 3) L (v :: st) ws cells slots) : N x pc L (.ref a :: st) ws cells slots := by
  obtain ⟨p, l, e, R, s, m, args, below, meth, c, D, cy', A, nL, Q⟩ := x
  obtain ⟨hx, hb, hml, hown, hts, hK, hlk, hR, hret, hA, hN, hZ, hl0, hnL, hnm, hcy, hQ⟩ := C
  obtain ⟨CN, T, h1, h2, h3, h4, h5⟩ := F
  intro H locs ls hP hD hS hl
  exact va_get (ref := (T k).1) (v := v) hx hb hts h4 hown hK hP q0 he h1 k h2 (hts _ h5) (fun _ q => q) hv d (kk H locs ls hP hD hS hl)
theorem n_astq {a v q0 qk n : Nat} {vs : List Value} {f : Nat → Option Nat} {i : Int32} {ws' : va_W} (C : Cn x l0 own cc rm nL0 cy mc0 ms0 post0) (d : decode cc pc = .ok (.aastore, 1)) (ha : ws[q0]? = some (a, .inl (cy 4, n, .inr (.inr (.inr (.inr f)))))) (hv : ws[qk]? = some (v, .inr (0, vs))) (hin : vp_in i n) (hw : ws.set q0 (a, .inl (cy 4, n, .inr (.inr (.inr (.inr (va_up f i.toNatClampNeg (some v))))))) = ws') (kk : N x (pc + 1) L st ws' cells slots) : N x pc L (.ref v :: .int i :: .ref a :: st) ws cells slots := by
  subst hw
  obtain ⟨p, l, e, R, s, m, args, below, meth, c, D, cy', A, nL, Q⟩ := x
  obtain ⟨hx, hb, hml, hown, hts, hK, hlk, hR, hret, hA, hN, hZ, hl0, hnL, hnm, hcy, hQ⟩ := C
  intro H locs ls hP hD hS hl
  exact va_astq (r := (RX0, TX0, 11)) hx hb hK hP hD hS q0 4 qk 0 ha rfl hv rfl hin d (fun H1 locs1 hP1 hD1 hS1 => kk H1 locs1 ls hP1 hD1 hS1 hl)
theorem n_iast {a q0 n : Nat} {f : Nat → Int32} {i v : Int32} {ws' : va_W} (C : Cn x l0 own cc rm nL0 cy mc0 ms0 post0) (d : decode cc pc = .ok (.iastore, 1)) (ha : ws[q0]? = some (a, .inl (cy 1, n, .inl f))) (hin : vp_in i n) (hw : ws.set q0 (a, .inl (cy 1, n, .inl (upd f i.toNatClampNeg v))) = ws') (kk : N x (pc + 1) L st ws' cells slots) : N x pc L (.int v :: .int i :: .ref a :: st) ws cells slots := by
  subst hw
  obtain ⟨p, l, e, R, s, m, args, below, meth, c, D, cy', A, nL, Q⟩ := x
  obtain ⟨hx, hb, hml, hown, hts, hK, hlk, hR, hret, hA, hN, hZ, hl0, hnL, hnm, hcy, hQ⟩ := C
  intro H locs ls hP hD hS hl
  exact va_iast hx hb hK hP hD hS q0 1 ha rfl hin d (fun H1 locs1 hP1 hD1 hS1 => kk H1 locs1 ls hP1 hD1 hS1 hl)
/-- behind a constructor's call: the caller's other cells, the callee's world -/
theorem n_run {wr : va_W} {b : Nat} {ee : va_E} {p : Program} {l : Launch} {e : Env} {R : Room} {s : State} {m : MethodId} {args : Array Value} {below : List Frame} {meth : Method} {c : Code} {D : va_G} {A : Nat → Prop} {nL : Nat} {Q : State → Prop} {H : Heap} {locs : List Loc} {ls : Array Slot} {st0 : List Value} {a : Array Value} {mc ms : Nat} {post' : va_W → Prop} (hA : ∀ q, s.heap.size ≤ q → A q) (hP : va_P D vwCl (wr ++ [(b, ee)]) H) (hD : va_D A (wr ++ [(b, ee)]))
    (hr : va_Run p l e R s m args below meth c H locs cells slots mc ms (F0 m pc ls st0) st (va_Qv post' (fun w1 t => va_P D vwCl w1 t.heap ∧ va_D (va_A [(b, ee)] H.size) w1) (va_A [(b, ee)] H.size) a) (va_A [(b, ee)] H.size)) (hS : va_S A s.heap H locs) (hl : lv_has ls nL L)
    (k : ∀ w1, post' w1 → N (p, l, e, R, s, m, args, below, meth, c, D, cy, A, nL, Q) (pc + 3) L st (wr ++ w1) (cells + mc) (slots + ms)) : W p l e R s m args below meth c H locs cells slots Q (F0 m pc ls st0) := by
  have hbA : A b := hD.2 wr.length (b, ee) last_at
  have hF : ∀ q, va_A [(b, ee)] H.size q → A q := fun q h => by
    rcases h with ⟨j, e', h⟩ | h
    · have : j = 0 := by
        have := (List.getElem?_eq_some_iff.mp h).1
        simp at this; exact this
      subst this
      cases h
      exact hbA
    · exact hA q (Nat.le_trans hS.1 h)
  refine va_callv hr hS (fun q _ h => hF q h) hF (fun w1 t H1 locs1 ht hvm hw hB hz hk hS1 => ?_)
  obtain ⟨hP1, hD1⟩ := hB
  rw [ht] at hP1
  have apart : ∀ (j : Nat) (q : Nat × va_E), wr[j]? = some q → q.1 < H.size ∧ ¬ va_A [(b, ee)] H.size q.1 := fun j q hq => by
    have hlt := (hP j q (pre_at hq)).lt
    refine ⟨hlt, fun h => ?_⟩
    rcases h with ⟨j', e', h⟩ | h
    · have : j' = 0 := by
        have := (List.getElem?_eq_some_iff.mp h).1
        simp at this; exact this
      subst this
      cases h
      have := hD.1 j wr.length q (q.1, ee) (pre_at hq) last_at rfl
      have := (List.getElem?_eq_some_iff.mp hq).1
      omega
    · omega
  refine k w1 hw H1 locs1 ls (va_P.app (fun j q hq => (hP j q (pre_at hq)).kept (hk q.1 (apart j q hq).1 (apart j q hq).2)) hP1) (va_D.app hD.pre (hD1.weaken (fun _ q _ h => hF q.1 h)) (fun i j u v hu hv huv => (apart i u hu).2 (by rw [huv]; exact hD1.2 j v hv))) hS1 hl
theorem CC_blind {D : va_G} {cy : Nat → ClassId} {sz : Nat} {wc : va_W} {As : List Value} : FrameBlind (va_Pc As (fun U => U.heap.size = sz ∧ va_P D vwCl wc U.heap ∧ va_K D vwCl (tysU cy) U ∧ va_D (fun _ => True) wc ∧ NW U ∧ Zs (va_A wc sz) U U.heap)) := by
  intro a U g mk q
  obtain ⟨q0, q1, qP, qK, qD, qN, qZ⟩ := q
  exact ⟨q0, q1, qP, va_K.moved (u := U) (U := U.calling g mk a) (Vm.Alike.refl U.vm) qK, qD, NW.same (s := U) (U := U.calling g mk a) rfl qN, Zs.moved (u := U) (U := U.calling g mk a) (Vm.Alike.refl U.vm) qZ⟩
theorem CC_pre {D : va_G} {A : Nat → Prop} {s : State} {H : Heap} {locs : List Loc} {wr : va_W} {b : Nat} {ee : va_E} {As : List Value} (hK : va_K D vwCl (tysU cy) s) (hA : ∀ q, s.heap.size ≤ q → A q) (hN : NW s) (hZ : Zs A s s.heap) (hP : va_P D vwCl (wr ++ [(b, ee)]) H) (hD : va_D A (wr ++ [(b, ee)])) (hS : va_S A s.heap H locs) (U : State) (hU : U.heap = H) (hW : s.WarmedH U.vm) : va_Pc As (fun U => U.heap.size = H.size ∧ va_P D vwCl [(b, ee)] U.heap ∧ va_K D vwCl (tysU cy) U ∧ va_D (fun _ => True) [(b, ee)] ∧ NW U ∧ Zs (va_A [(b, ee)] H.size) U U.heap) As.toArray U := by
  have one : ∀ (j : Nat) (q : Nat × va_E), [(b, ee)][j]? = some q → j = 0 ∧ q = (b, ee) := fun j q h => by
    have hj : j = 0 := by
      have := (List.getElem?_eq_some_iff.mp h).1
      simp at this; exact this
    subst hj
    cases h
    exact ⟨rfl, rfl⟩
  have hbA : A b := hD.2 wr.length (b, ee) last_at
  refine ⟨rfl, by rw [hU], fun j q hq => ?_, va_K.moved hW.alike hK, ⟨fun i j u v hu hv _ => (one i u hu).1.trans (one j v hv).1.symm, fun _ _ _ => trivial⟩, hN.warm hW, ?_⟩
  · rw [hU, (one j q hq).2]
    exact hP wr.length (b, ee) last_at
  · rw [hU]
    refine ((hZ.kept (fun a ha hn => hS.2.1 a ha hn)).moved hW.alike).narrow (fun q h => ?_)
    rcases h with ⟨j, e', h⟩ | h
    · have := (one j _ h).2
      cases this
      exact hbA
    · exact hA q (Nat.le_trans hS.1 h)
/-- a constructor by its contract: a method that the caller's class may see -/
theorem n_call {y : MethodName} {bytes : ByteArray} {maxL n idx b mc ms : Nat} {rm' : Room} {As stk : List Value} {ee : va_E} {wr : va_W} {post' : (Nat → ClassId) → va_W → Prop} (C : Cn x l0 own cc rm nL0 cy mc0 ms0 post0) (d : decode cc pc = .ok (.invokespecial idx, 3)) (hm : Cond.methodLink own idx y ∈ wU) (him : Cond.instanceMethod y ∈ wU) (hin : Cond.initialized y.cls ∈ wU) (hcd : Cond.code y bytes maxL none ∈ wU) (hy : y.name = "<init>") (hd : y.cls ≠ "java/lang/invoke/MethodHandle" ∧ y.cls ≠ "java/lang/invoke/VarHandle" ∧ (parseMethodDescriptor y.desc).map (fun d => d.parameters.length) = some n) (hc : rm'.cells = mc ∧ rm'.slots = ms) (hR : rm'.frames + 1 ≤ rm.frames ∧ 8 + (maxL + 11) + rm'.locals ≤ rm.locals) (hR2 : cells + mc ≤ rm.cells ∧ slots + ms ≤ rm.slots) (hn : As.length = n) (hs : stk = As.reverse ++ .ref b :: st) (hw : (st.map fun v => v.category).sum ≤ 8) (ok : CC l0 y bytes maxL rm' mc ms [(b, ee)] (.ref b :: As) post') (k : ∀ w1, post' cy w1 → N x (pc + 3) L st (wr ++ w1) (cells + mc) (slots + ms)) : N x pc L stk (wr ++ [(b, ee)]) cells slots := by
  subst hs
  obtain ⟨p, l, e, R, s, m, args, below, meth, c, D, cy', A, nL, Q⟩ := x
  obtain ⟨hx, hb, hml, hown, hts, hK, hlk, hRR, hret, hA, hN, hZ, hl0, hnL, hnm, hcy, hQ⟩ := C
  subst hl0; subst hRR; subst hcy
  intro H locs ls hP hD hS hl
  have hG : GoodIn wU (Cond.code y bytes maxL none :: wU) := by
    intro w hw
    have hm : w ∈ wU := by
      rcases List.mem_cons.mp hw with rfl | hw
      · exact hcd
      · exact hw
    exact ⟨hm, good_of_word (List.mem_filter.mp hm).2⟩
  exact n_run hA hP hD (va_runI (As := As) (rest := st) (n := n) ⟨hx, hb, hml, hown, hts⟩ (ok D cy' H.size) (cwI n hts hG rfl hc.1 hc.2 (hts _ hin) (hts _ hm) (hts _ him) hy hd hR) ⟨CC_blind, fun U hU hW => CC_pre (As := .ref b :: As) hK hA hN hZ hP hD hS U hU hW⟩ rfl hn hl.1 rfl (lv_room hw) d hR2) hS hl k
/-- .. and one that is private in a class of the same nest -/
theorem n_callN {y : MethodName} {bytes : ByteArray} {maxL n idx b mc ms : Nat} {rm' : Room} {As stk : List Value} {ee : va_E} {wr : va_W} {post' : (Nat → ClassId) → va_W → Prop} (C : Cn x l0 own cc rm nL0 cy mc0 ms0 post0) (d : decode cc pc = .ok (.invokespecial idx, 3)) (hm : (own, idx, y) ∈ nestL) (him : Cond.instanceMethod y ∈ wU) (hin : Cond.initialized y.cls ∈ wU) (hcd : Cond.code y bytes maxL none ∈ wU) (hy : y.name = "<init>") (hd : y.cls ≠ "java/lang/invoke/MethodHandle" ∧ y.cls ≠ "java/lang/invoke/VarHandle" ∧ (parseMethodDescriptor y.desc).map (fun d => d.parameters.length) = some n) (hc : rm'.cells = mc ∧ rm'.slots = ms) (hR : rm'.frames + 1 ≤ rm.frames ∧ 8 + (maxL + 11) + rm'.locals ≤ rm.locals) (hR2 : cells + mc ≤ rm.cells ∧ slots + ms ≤ rm.slots) (hn : As.length = n) (hs : stk = As.reverse ++ .ref b :: st) (hw : (st.map fun v => v.category).sum ≤ 8) (ok : CC l0 y bytes maxL rm' mc ms [(b, ee)] (.ref b :: As) post') (k : ∀ w1, post' cy w1 → N x (pc + 3) L st (wr ++ w1) (cells + mc) (slots + ms)) : N x pc L stk (wr ++ [(b, ee)]) cells slots := by
  subst hs
  obtain ⟨p, l, e, R, s, m, args, below, meth, c, D, cy', A, nL, Q⟩ := x
  obtain ⟨hx, hb, hml, hown, hts, hK, hlk, hRR, hret, hA, hN, hZ, hl0, hnL, hnm, hcy, hQ⟩ := C
  subst hl0; subst hRR; subst hcy
  intro H locs ls hP hD hS hl
  have hG : GoodIn wU (Cond.code y bytes maxL none :: wU) := by
    intro w hw
    have hm : w ∈ wU := by
      rcases List.mem_cons.mp hw with rfl | hw
      · exact hcd
      · exact hw
    exact ⟨hm, good_of_word (List.mem_filter.mp hm).2⟩
  have hnl : va_Nw (.methodLinkNest own idx y RX11) s := hN.2 _ hm
  exact n_run hA hP hD (va_runIN (As := As) (rest := st) (n := n) ⟨hx, hb, hml, hown, hts⟩ (ok D cy' H.size) ⟨va_cnB n hts hG rfl hc.1 hc.2 hnl (hts _ hin) hd hR, hy, hts _ him⟩ ⟨CC_blind, fun U hU hW => CC_pre (As := .ref b :: As) hK hA hN hZ hP hD hS U hU hW⟩ rfl hn hl.1 rfl (lv_room hw) d hR2) hS hl k
end NHEAP
