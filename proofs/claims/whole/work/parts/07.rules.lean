/-! The rules: an instruction each. -/
section RULES
variable {Λ : Lay} {x : Mx} {l0 : Launch} {own : String} {cc : ByteArray} {rm : Room} {ret : Option FieldType} {nL0 : Nat} {post0 : Option Value → Hp → Prop} {pc : Nat} {L : List (Nat × Value)} {st : List Value} {h : Hp}
theorem g_iconst {n : Int} {v : Int32} (C : Cx Λ x l0 own cc rm ret nL0 post0) (d : decode cc pc = .ok (.iconst n, 1)) (hv : Int32.ofInt n = v) (k : G Λ x (pc + 1) L (.int v :: st) h) : G Λ x pc L (st) h := by
  obtain ⟨p, l, e, R, s, m, args, below, meth, c, D, ad, cy, A, nL, post⟩ := x
  obtain ⟨hx, hb, hml, hown, hts, hK, hlk, hR, hret, hA, hAp, hZ, hl0, hnL, hpost⟩ := C
  intro H locs ls hP hD hS hl
  exact lv_iconst hx hb d hv (k H locs ls hP hD hS hl)
theorem g_bipush {n : Int} {v : Int32} (C : Cx Λ x l0 own cc rm ret nL0 post0) (d : decode cc pc = .ok (.bipush n, 2)) (hv : (Int8.ofInt n).toInt32 = v) (k : G Λ x (pc + 2) L (.int v :: st) h) : G Λ x pc L (st) h := by
  obtain ⟨p, l, e, R, s, m, args, below, meth, c, D, ad, cy, A, nL, post⟩ := x
  obtain ⟨hx, hb, hml, hown, hts, hK, hlk, hR, hret, hA, hAp, hZ, hl0, hnL, hpost⟩ := C
  intro H locs ls hP hD hS hl
  exact lv_bipush hx hb d hv (k H locs ls hP hD hS hl)
theorem g_sipush {n : Int} {v : Int32} (C : Cx Λ x l0 own cc rm ret nL0 post0) (d : decode cc pc = .ok (.sipush n, 3)) (hv : (Int16.ofInt n).toInt32 = v) (k : G Λ x (pc + 3) L (.int v :: st) h) : G Λ x pc L (st) h := by
  obtain ⟨p, l, e, R, s, m, args, below, meth, c, D, ad, cy, A, nL, post⟩ := x
  obtain ⟨hx, hb, hml, hown, hts, hK, hlk, hR, hret, hA, hAp, hZ, hl0, hnL, hpost⟩ := C
  intro H locs ls hP hD hS hl
  exact lv_sipush hx hb d hv (k H locs ls hP hD hS hl)
theorem g_lconst {n : Fin 2} {v : Int64} (C : Cx Λ x l0 own cc rm ret nL0 post0) (d : decode cc pc = .ok (.lconst n, 1)) (hv : Int64.ofNat (n : Nat) = v) (k : G Λ x (pc + 1) L (.long v :: st) h) : G Λ x pc L (st) h := by
  obtain ⟨p, l, e, R, s, m, args, below, meth, c, D, ad, cy, A, nL, post⟩ := x
  obtain ⟨hx, hb, hml, hown, hts, hK, hlk, hR, hret, hA, hAp, hZ, hl0, hnL, hpost⟩ := C
  intro H locs ls hP hD hS hl
  exact lv_lconst hx hb d hv (k H locs ls hP hD hS hl)
theorem g_ldc {index : Nat} {v : Int32} (C : Cx Λ x l0 own cc rm ret nL0 post0) (d : decode cc pc = .ok (.ldc index, 2)) (hw : Cond.constant own index v ∈ wU) (k : G Λ x (pc + 2) L (.int v :: st) h) : G Λ x pc L (st) h := by
  obtain ⟨p, l, e, R, s, m, args, below, meth, c, D, ad, cy, A, nL, post⟩ := x
  obtain ⟨hx, hb, hml, hown, hts, hK, hlk, hR, hret, hA, hAp, hZ, hl0, hnL, hpost⟩ := C
  intro H locs ls hP hD hS hl
  exact lv_ldc hx hb hown (hts _ hw) d (k H locs ls hP hD hS hl)
theorem g_ldc2 {index : Nat} {v : Int64} (C : Cx Λ x l0 own cc rm ret nL0 post0) (d : decode cc pc = .ok (.ldc2_w index, 3)) (hw : Cond.constantLong own index v ∈ wU) (k : G Λ x (pc + 3) L (.long v :: st) h) : G Λ x pc L (st) h := by
  obtain ⟨p, l, e, R, s, m, args, below, meth, c, D, ad, cy, A, nL, post⟩ := x
  obtain ⟨hx, hb, hml, hown, hts, hK, hlk, hR, hret, hA, hAp, hZ, hl0, hnL, hpost⟩ := C
  intro H locs ls hP hD hS hl
  exact lv_ldc2 hx hb hown (hts _ hw) d (k H locs ls hP hD hS hl)
theorem g_iload_n {i : Fin 4} {q i0 : Nat} {v : Int32} (C : Cx Λ x l0 own cc rm ret nL0 post0) (d : decode cc pc = .ok (.iload_n i, 1)) (hi : (i : Nat) = i0) (hq : L[q]? = some (i0, .int v)) (k : G Λ x (pc + 1) L (.int v :: st) h) : G Λ x pc L (st) h := by
  obtain ⟨p, l, e, R, s, m, args, below, meth, c, D, ad, cy, A, nL, post⟩ := x
  obtain ⟨hx, hb, hml, hown, hts, hK, hlk, hR, hret, hA, hAp, hZ, hl0, hnL, hpost⟩ := C
  intro H locs ls hP hD hS hl
  exact lv_iload_n hx hb d hi (lv_at hl q (cL_get ad hq)) (k H locs ls hP hD hS hl)
theorem g_iload {i q : Nat} {v : Int32} (C : Cx Λ x l0 own cc rm ret nL0 post0) (d : decode cc pc = .ok (.iload i, 2)) (hq : L[q]? = some (i, .int v)) (k : G Λ x (pc + 2) L (.int v :: st) h) : G Λ x pc L (st) h := by
  obtain ⟨p, l, e, R, s, m, args, below, meth, c, D, ad, cy, A, nL, post⟩ := x
  obtain ⟨hx, hb, hml, hown, hts, hK, hlk, hR, hret, hA, hAp, hZ, hl0, hnL, hpost⟩ := C
  intro H locs ls hP hD hS hl
  exact lv_iload hx hb d (lv_at hl q (cL_get ad hq)) (k H locs ls hP hD hS hl)
theorem g_lload_n {i : Fin 4} {q i0 : Nat} {v : Int64} (C : Cx Λ x l0 own cc rm ret nL0 post0) (d : decode cc pc = .ok (.lload_n i, 1)) (hi : (i : Nat) = i0) (hq : L[q]? = some (i0, .long v)) (k : G Λ x (pc + 1) L (.long v :: st) h) : G Λ x pc L (st) h := by
  obtain ⟨p, l, e, R, s, m, args, below, meth, c, D, ad, cy, A, nL, post⟩ := x
  obtain ⟨hx, hb, hml, hown, hts, hK, hlk, hR, hret, hA, hAp, hZ, hl0, hnL, hpost⟩ := C
  intro H locs ls hP hD hS hl
  exact lv_lload_n hx hb d hi (lv_at hl q (cL_get ad hq)) (k H locs ls hP hD hS hl)
theorem g_lload {i q : Nat} {v : Int64} (C : Cx Λ x l0 own cc rm ret nL0 post0) (d : decode cc pc = .ok (.lload i, 2)) (hq : L[q]? = some (i, .long v)) (k : G Λ x (pc + 2) L (.long v :: st) h) : G Λ x pc L (st) h := by
  obtain ⟨p, l, e, R, s, m, args, below, meth, c, D, ad, cy, A, nL, post⟩ := x
  obtain ⟨hx, hb, hml, hown, hts, hK, hlk, hR, hret, hA, hAp, hZ, hl0, hnL, hpost⟩ := C
  intro H locs ls hP hD hS hl
  exact lv_lload hx hb d (lv_at hl q (cL_get ad hq)) (k H locs ls hP hD hS hl)
theorem g_aload_n {i : Fin 4} {q i0 v : Nat} (C : Cx Λ x l0 own cc rm ret nL0 post0) (d : decode cc pc = .ok (.aload_n i, 1)) (hi : (i : Nat) = i0) (hq : L[q]? = some (i0, .ref v)) (k : G Λ x (pc + 1) L (.ref v :: st) h) : G Λ x pc L (st) h := by
  obtain ⟨p, l, e, R, s, m, args, below, meth, c, D, ad, cy, A, nL, post⟩ := x
  obtain ⟨hx, hb, hml, hown, hts, hK, hlk, hR, hret, hA, hAp, hZ, hl0, hnL, hpost⟩ := C
  intro H locs ls hP hD hS hl
  exact lv_aload_n hx hb d hi (lv_at hl q (cL_get ad hq)) (k H locs ls hP hD hS hl)
theorem g_aload {i q v : Nat} (C : Cx Λ x l0 own cc rm ret nL0 post0) (d : decode cc pc = .ok (.aload i, 2)) (hq : L[q]? = some (i, .ref v)) (k : G Λ x (pc + 2) L (.ref v :: st) h) : G Λ x pc L (st) h := by
  obtain ⟨p, l, e, R, s, m, args, below, meth, c, D, ad, cy, A, nL, post⟩ := x
  obtain ⟨hx, hb, hml, hown, hts, hK, hlk, hR, hret, hA, hAp, hZ, hl0, hnL, hpost⟩ := C
  intro H locs ls hP hD hS hl
  exact lv_aload hx hb d (lv_at hl q (cL_get ad hq)) (k H locs ls hP hD hS hl)
theorem g_istore_n {i : Fin 4} {i0 : Nat} {v : Int32} {L' : List (Nat × Value)} (C : Cx Λ x l0 own cc rm ret nL0 post0) (d : decode cc pc = .ok (.istore_n i, 1)) (hi : (i : Nat) = i0) (hn : i0 < nL0) (hL : (i0, Value.int v) :: L.filter (fun q => !(q.1 == i0) && !(q.1 + 1 == i0 && q.2.category == 2)) = L') (k : G Λ x (pc + 1) L' st h) : G Λ x pc L (Value.int v :: st) h := by
  obtain ⟨p, l, e, R, s, m, args, below, meth, c, D, ad, cy, A, nL, post⟩ := x
  obtain ⟨hx, hb, hml, hown, hts, hK, hlk, hR, hret, hA, hAp, hZ, hl0, hnL, hpost⟩ := C
  intro H locs ls hP hD hS hl
  subst hnL
  refine lv_istore_n hx hb d hi hl hn ?_ (fun ls' hl' => k H locs ls' hP hD hS hl')
  rw [← hL]
  show _ = (i0, cV ad (Value.int v)) :: cL ad _
  exact congrArg _ (cL_filter ad (fun a b => !(a == i0) && !(a + 1 == i0 && b == 2)) L).symm
theorem g_istore {i0 : Nat} {v : Int32} {L' : List (Nat × Value)} (C : Cx Λ x l0 own cc rm ret nL0 post0) (d : decode cc pc = .ok (.istore i0, 2))  (hn : i0 < nL0) (hL : (i0, Value.int v) :: L.filter (fun q => !(q.1 == i0) && !(q.1 + 1 == i0 && q.2.category == 2)) = L') (k : G Λ x (pc + 2) L' st h) : G Λ x pc L (Value.int v :: st) h := by
  obtain ⟨p, l, e, R, s, m, args, below, meth, c, D, ad, cy, A, nL, post⟩ := x
  obtain ⟨hx, hb, hml, hown, hts, hK, hlk, hR, hret, hA, hAp, hZ, hl0, hnL, hpost⟩ := C
  intro H locs ls hP hD hS hl
  subst hnL
  refine lv_istore hx hb d hl hn ?_ (fun ls' hl' => k H locs ls' hP hD hS hl')
  rw [← hL]
  show _ = (i0, cV ad (Value.int v)) :: cL ad _
  exact congrArg _ (cL_filter ad (fun a b => !(a == i0) && !(a + 1 == i0 && b == 2)) L).symm
theorem g_astore_n {i : Fin 4} {i0 : Nat} {v : Nat} {L' : List (Nat × Value)} (C : Cx Λ x l0 own cc rm ret nL0 post0) (d : decode cc pc = .ok (.astore_n i, 1)) (hi : (i : Nat) = i0) (hn : i0 < nL0) (hL : (i0, Value.ref v) :: L.filter (fun q => !(q.1 == i0) && !(q.1 + 1 == i0 && q.2.category == 2)) = L') (k : G Λ x (pc + 1) L' st h) : G Λ x pc L (Value.ref v :: st) h := by
  obtain ⟨p, l, e, R, s, m, args, below, meth, c, D, ad, cy, A, nL, post⟩ := x
  obtain ⟨hx, hb, hml, hown, hts, hK, hlk, hR, hret, hA, hAp, hZ, hl0, hnL, hpost⟩ := C
  intro H locs ls hP hD hS hl
  subst hnL
  refine lv_astore_n hx hb d hi hl hn ?_ (fun ls' hl' => k H locs ls' hP hD hS hl')
  rw [← hL]
  show _ = (i0, cV ad (Value.ref v)) :: cL ad _
  exact congrArg _ (cL_filter ad (fun a b => !(a == i0) && !(a + 1 == i0 && b == 2)) L).symm
theorem g_astore {i0 : Nat} {v : Nat} {L' : List (Nat × Value)} (C : Cx Λ x l0 own cc rm ret nL0 post0) (d : decode cc pc = .ok (.astore i0, 2))  (hn : i0 < nL0) (hL : (i0, Value.ref v) :: L.filter (fun q => !(q.1 == i0) && !(q.1 + 1 == i0 && q.2.category == 2)) = L') (k : G Λ x (pc + 2) L' st h) : G Λ x pc L (Value.ref v :: st) h := by
  obtain ⟨p, l, e, R, s, m, args, below, meth, c, D, ad, cy, A, nL, post⟩ := x
  obtain ⟨hx, hb, hml, hown, hts, hK, hlk, hR, hret, hA, hAp, hZ, hl0, hnL, hpost⟩ := C
  intro H locs ls hP hD hS hl
  subst hnL
  refine lv_astore hx hb d hl hn ?_ (fun ls' hl' => k H locs ls' hP hD hS hl')
  rw [← hL]
  show _ = (i0, cV ad (Value.ref v)) :: cL ad _
  exact congrArg _ (cL_filter ad (fun a b => !(a == i0) && !(a + 1 == i0 && b == 2)) L).symm
theorem g_lstore_n {i : Fin 4} {i0 : Nat} {v : Int64} {L' : List (Nat × Value)} (C : Cx Λ x l0 own cc rm ret nL0 post0) (d : decode cc pc = .ok (.lstore_n i, 1)) (hi : (i : Nat) = i0) (hn : i0 + 1 < nL0) (hL : (i0, Value.long v) :: L.filter (fun q => !(q.1 == i0) && (!(q.1 == i0 + 1) && !(q.1 + 1 == i0 && q.2.category == 2))) = L') (k : G Λ x (pc + 1) L' st h) : G Λ x pc L (Value.long v :: st) h := by
  obtain ⟨p, l, e, R, s, m, args, below, meth, c, D, ad, cy, A, nL, post⟩ := x
  obtain ⟨hx, hb, hml, hown, hts, hK, hlk, hR, hret, hA, hAp, hZ, hl0, hnL, hpost⟩ := C
  intro H locs ls hP hD hS hl
  subst hnL
  refine lv_lstore_n hx hb d hi hl hn ?_ (fun ls' hl' => k H locs ls' hP hD hS hl')
  rw [← hL]
  show _ = (i0, cV ad (Value.long v)) :: cL ad _
  exact congrArg _ (cL_filter ad (fun a b => !(a == i0) && (!(a == i0 + 1) && !(a + 1 == i0 && b == 2))) L).symm
theorem g_lstore {i0 : Nat} {v : Int64} {L' : List (Nat × Value)} (C : Cx Λ x l0 own cc rm ret nL0 post0) (d : decode cc pc = .ok (.lstore i0, 2))  (hn : i0 + 1 < nL0) (hL : (i0, Value.long v) :: L.filter (fun q => !(q.1 == i0) && (!(q.1 == i0 + 1) && !(q.1 + 1 == i0 && q.2.category == 2))) = L') (k : G Λ x (pc + 2) L' st h) : G Λ x pc L (Value.long v :: st) h := by
  obtain ⟨p, l, e, R, s, m, args, below, meth, c, D, ad, cy, A, nL, post⟩ := x
  obtain ⟨hx, hb, hml, hown, hts, hK, hlk, hR, hret, hA, hAp, hZ, hl0, hnL, hpost⟩ := C
  intro H locs ls hP hD hS hl
  subst hnL
  refine lv_lstore hx hb d hl hn ?_ (fun ls' hl' => k H locs ls' hP hD hS hl')
  rw [← hL]
  show _ = (i0, cV ad (Value.long v)) :: cL ad _
  exact congrArg _ (cL_filter ad (fun a b => !(a == i0) && (!(a == i0 + 1) && !(a + 1 == i0 && b == 2))) L).symm
theorem g_iinc {i0 q : Nat} {n : Int} {a v : Int32} {L' : List (Nat × Value)} (C : Cx Λ x l0 own cc rm ret nL0 post0) (d : decode cc pc = .ok (.iinc i0 n, 3)) (hq : L[q]? = some (i0, .int a)) (hv : a + Int32.ofInt n = v) (hn : i0 < nL0) (hL : (i0, Value.int v) :: L.filter (fun q => !(q.1 == i0) && !(q.1 + 1 == i0 && q.2.category == 2)) = L') (k : G Λ x (pc + 3) L' st h) : G Λ x pc L st h := by
  obtain ⟨p, l, e, R, s, m, args, below, meth, c, D, ad, cy, A, nL, post⟩ := x
  obtain ⟨hx, hb, hml, hown, hts, hK, hlk, hR, hret, hA, hAp, hZ, hl0, hnL, hpost⟩ := C
  intro H locs ls hP hD hS hl
  subst hnL
  refine lv_iinc hx hb d hl (cL_get ad hq) hv hn ?_ (fun ls' hl' => k H locs ls' hP hD hS hl')
  rw [← hL]
  show _ = (i0, cV ad (Value.int v)) :: cL ad _
  exact congrArg _ (cL_filter ad (fun a b => !(a == i0) && !(a + 1 == i0 && b == 2)) L).symm
theorem g_iadd {a b : Int32} (C : Cx Λ x l0 own cc rm ret nL0 post0) (d : decode cc pc = .ok (.iadd, 1))  (k : G Λ x (pc + 1) L (.int (a + b) :: st) h) : G Λ x pc L (.int b :: .int a :: st) h := by
  obtain ⟨p, l, e, R, s, m, args, below, meth, c, D, ad, cy, A, nL, post⟩ := x
  obtain ⟨hx, hb, hml, hown, hts, hK, hlk, hR, hret, hA, hAp, hZ, hl0, hnL, hpost⟩ := C
  intro H locs ls hP hD hS hl
  exact lv_iadd hx hb d (k H locs ls hP hD hS hl)
theorem g_isub {a b : Int32} (C : Cx Λ x l0 own cc rm ret nL0 post0) (d : decode cc pc = .ok (.isub, 1))  (k : G Λ x (pc + 1) L (.int (a - b) :: st) h) : G Λ x pc L (.int b :: .int a :: st) h := by
  obtain ⟨p, l, e, R, s, m, args, below, meth, c, D, ad, cy, A, nL, post⟩ := x
  obtain ⟨hx, hb, hml, hown, hts, hK, hlk, hR, hret, hA, hAp, hZ, hl0, hnL, hpost⟩ := C
  intro H locs ls hP hD hS hl
  exact lv_isub hx hb d (k H locs ls hP hD hS hl)
theorem g_imul {a b : Int32} (C : Cx Λ x l0 own cc rm ret nL0 post0) (d : decode cc pc = .ok (.imul, 1))  (k : G Λ x (pc + 1) L (.int (a * b) :: st) h) : G Λ x pc L (.int b :: .int a :: st) h := by
  obtain ⟨p, l, e, R, s, m, args, below, meth, c, D, ad, cy, A, nL, post⟩ := x
  obtain ⟨hx, hb, hml, hown, hts, hK, hlk, hR, hret, hA, hAp, hZ, hl0, hnL, hpost⟩ := C
  intro H locs ls hP hD hS hl
  exact lv_imul hx hb d (k H locs ls hP hD hS hl)
theorem g_iand {a b : Int32} (C : Cx Λ x l0 own cc rm ret nL0 post0) (d : decode cc pc = .ok (.iand, 1))  (k : G Λ x (pc + 1) L (.int (a &&& b) :: st) h) : G Λ x pc L (.int b :: .int a :: st) h := by
  obtain ⟨p, l, e, R, s, m, args, below, meth, c, D, ad, cy, A, nL, post⟩ := x
  obtain ⟨hx, hb, hml, hown, hts, hK, hlk, hR, hret, hA, hAp, hZ, hl0, hnL, hpost⟩ := C
  intro H locs ls hP hD hS hl
  exact lv_iand hx hb d (k H locs ls hP hD hS hl)
theorem g_ior {a b : Int32} (C : Cx Λ x l0 own cc rm ret nL0 post0) (d : decode cc pc = .ok (.ior, 1))  (k : G Λ x (pc + 1) L (.int (a ||| b) :: st) h) : G Λ x pc L (.int b :: .int a :: st) h := by
  obtain ⟨p, l, e, R, s, m, args, below, meth, c, D, ad, cy, A, nL, post⟩ := x
  obtain ⟨hx, hb, hml, hown, hts, hK, hlk, hR, hret, hA, hAp, hZ, hl0, hnL, hpost⟩ := C
  intro H locs ls hP hD hS hl
  exact lv_ior hx hb d (k H locs ls hP hD hS hl)
theorem g_ixor {a b : Int32} (C : Cx Λ x l0 own cc rm ret nL0 post0) (d : decode cc pc = .ok (.ixor, 1))  (k : G Λ x (pc + 1) L (.int (a ^^^ b) :: st) h) : G Λ x pc L (.int b :: .int a :: st) h := by
  obtain ⟨p, l, e, R, s, m, args, below, meth, c, D, ad, cy, A, nL, post⟩ := x
  obtain ⟨hx, hb, hml, hown, hts, hK, hlk, hR, hret, hA, hAp, hZ, hl0, hnL, hpost⟩ := C
  intro H locs ls hP hD hS hl
  exact lv_ixor hx hb d (k H locs ls hP hD hS hl)
theorem g_ladd {a b : Int64} (C : Cx Λ x l0 own cc rm ret nL0 post0) (d : decode cc pc = .ok (.ladd, 1))  (k : G Λ x (pc + 1) L (.long (a + b) :: st) h) : G Λ x pc L (.long b :: .long a :: st) h := by
  obtain ⟨p, l, e, R, s, m, args, below, meth, c, D, ad, cy, A, nL, post⟩ := x
  obtain ⟨hx, hb, hml, hown, hts, hK, hlk, hR, hret, hA, hAp, hZ, hl0, hnL, hpost⟩ := C
  intro H locs ls hP hD hS hl
  exact lv_ladd hx hb d (k H locs ls hP hD hS hl)
theorem g_lsub {a b : Int64} (C : Cx Λ x l0 own cc rm ret nL0 post0) (d : decode cc pc = .ok (.lsub, 1))  (k : G Λ x (pc + 1) L (.long (a - b) :: st) h) : G Λ x pc L (.long b :: .long a :: st) h := by
  obtain ⟨p, l, e, R, s, m, args, below, meth, c, D, ad, cy, A, nL, post⟩ := x
  obtain ⟨hx, hb, hml, hown, hts, hK, hlk, hR, hret, hA, hAp, hZ, hl0, hnL, hpost⟩ := C
  intro H locs ls hP hD hS hl
  exact lv_lsub hx hb d (k H locs ls hP hD hS hl)
theorem g_lmul {a b : Int64} (C : Cx Λ x l0 own cc rm ret nL0 post0) (d : decode cc pc = .ok (.lmul, 1))  (k : G Λ x (pc + 1) L (.long (a * b) :: st) h) : G Λ x pc L (.long b :: .long a :: st) h := by
  obtain ⟨p, l, e, R, s, m, args, below, meth, c, D, ad, cy, A, nL, post⟩ := x
  obtain ⟨hx, hb, hml, hown, hts, hK, hlk, hR, hret, hA, hAp, hZ, hl0, hnL, hpost⟩ := C
  intro H locs ls hP hD hS hl
  exact lv_lmul hx hb d (k H locs ls hP hD hS hl)
theorem g_land {a b : Int64} (C : Cx Λ x l0 own cc rm ret nL0 post0) (d : decode cc pc = .ok (.land, 1))  (k : G Λ x (pc + 1) L (.long (a &&& b) :: st) h) : G Λ x pc L (.long b :: .long a :: st) h := by
  obtain ⟨p, l, e, R, s, m, args, below, meth, c, D, ad, cy, A, nL, post⟩ := x
  obtain ⟨hx, hb, hml, hown, hts, hK, hlk, hR, hret, hA, hAp, hZ, hl0, hnL, hpost⟩ := C
  intro H locs ls hP hD hS hl
  exact lv_land hx hb d (k H locs ls hP hD hS hl)
theorem g_idiv {a b : Int32} (C : Cx Λ x l0 own cc rm ret nL0 post0) (d : decode cc pc = .ok (.idiv, 1)) (hne : ¬ b = 0) (k : G Λ x (pc + 1) L (.int (a / b) :: st) h) : G Λ x pc L (.int b :: .int a :: st) h := by
  obtain ⟨p, l, e, R, s, m, args, below, meth, c, D, ad, cy, A, nL, post⟩ := x
  obtain ⟨hx, hb, hml, hown, hts, hK, hlk, hR, hret, hA, hAp, hZ, hl0, hnL, hpost⟩ := C
  intro H locs ls hP hD hS hl
  exact lv_idiv hx hb d hne (k H locs ls hP hD hS hl)
theorem g_irem {a b : Int32} (C : Cx Λ x l0 own cc rm ret nL0 post0) (d : decode cc pc = .ok (.irem, 1)) (hne : ¬ b = 0) (k : G Λ x (pc + 1) L (.int (a - a / b * b) :: st) h) : G Λ x pc L (.int b :: .int a :: st) h := by
  obtain ⟨p, l, e, R, s, m, args, below, meth, c, D, ad, cy, A, nL, post⟩ := x
  obtain ⟨hx, hb, hml, hown, hts, hK, hlk, hR, hret, hA, hAp, hZ, hl0, hnL, hpost⟩ := C
  intro H locs ls hP hD hS hl
  exact lv_irem hx hb d hne (k H locs ls hP hD hS hl)
theorem g_ldiv {a b : Int64} (C : Cx Λ x l0 own cc rm ret nL0 post0) (d : decode cc pc = .ok (.ldiv, 1)) (hne : ¬ b = 0) (k : G Λ x (pc + 1) L (.long (a / b) :: st) h) : G Λ x pc L (.long b :: .long a :: st) h := by
  obtain ⟨p, l, e, R, s, m, args, below, meth, c, D, ad, cy, A, nL, post⟩ := x
  obtain ⟨hx, hb, hml, hown, hts, hK, hlk, hR, hret, hA, hAp, hZ, hl0, hnL, hpost⟩ := C
  intro H locs ls hP hD hS hl
  exact lv_ldiv hx hb d hne (k H locs ls hP hD hS hl)
theorem g_lrem {a b : Int64} (C : Cx Λ x l0 own cc rm ret nL0 post0) (d : decode cc pc = .ok (.lrem, 1)) (hne : ¬ b = 0) (k : G Λ x (pc + 1) L (.long (a - a / b * b) :: st) h) : G Λ x pc L (.long b :: .long a :: st) h := by
  obtain ⟨p, l, e, R, s, m, args, below, meth, c, D, ad, cy, A, nL, post⟩ := x
  obtain ⟨hx, hb, hml, hown, hts, hK, hlk, hR, hret, hA, hAp, hZ, hl0, hnL, hpost⟩ := C
  intro H locs ls hP hD hS hl
  exact lv_lrem hx hb d hne (k H locs ls hP hD hS hl)
theorem g_ineg {a : Int32} (C : Cx Λ x l0 own cc rm ret nL0 post0) (d : decode cc pc = .ok (.ineg, 1))  (k : G Λ x (pc + 1) L (.int (-a) :: st) h) : G Λ x pc L (.int a :: st) h := by
  obtain ⟨p, l, e, R, s, m, args, below, meth, c, D, ad, cy, A, nL, post⟩ := x
  obtain ⟨hx, hb, hml, hown, hts, hK, hlk, hR, hret, hA, hAp, hZ, hl0, hnL, hpost⟩ := C
  intro H locs ls hP hD hS hl
  exact lv_ineg hx hb d (k H locs ls hP hD hS hl)
theorem g_lneg {a : Int64} (C : Cx Λ x l0 own cc rm ret nL0 post0) (d : decode cc pc = .ok (.lneg, 1))  (k : G Λ x (pc + 1) L (.long (-a) :: st) h) : G Λ x pc L (.long a :: st) h := by
  obtain ⟨p, l, e, R, s, m, args, below, meth, c, D, ad, cy, A, nL, post⟩ := x
  obtain ⟨hx, hb, hml, hown, hts, hK, hlk, hR, hret, hA, hAp, hZ, hl0, hnL, hpost⟩ := C
  intro H locs ls hP hD hS hl
  exact lv_lneg hx hb d (k H locs ls hP hD hS hl)
theorem g_ishl {a b : Int32} (C : Cx Λ x l0 own cc rm ret nL0 post0) (d : decode cc pc = .ok (.ishl, 1))  (k : G Λ x (pc + 1) L (.int (a <<< (b &&& 31)) :: st) h) : G Λ x pc L (.int b :: .int a :: st) h := by
  obtain ⟨p, l, e, R, s, m, args, below, meth, c, D, ad, cy, A, nL, post⟩ := x
  obtain ⟨hx, hb, hml, hown, hts, hK, hlk, hR, hret, hA, hAp, hZ, hl0, hnL, hpost⟩ := C
  intro H locs ls hP hD hS hl
  exact lv_ishl hx hb d (k H locs ls hP hD hS hl)
theorem g_ishr {a b : Int32} (C : Cx Λ x l0 own cc rm ret nL0 post0) (d : decode cc pc = .ok (.ishr, 1))  (k : G Λ x (pc + 1) L (.int (a >>> (b &&& 31)) :: st) h) : G Λ x pc L (.int b :: .int a :: st) h := by
  obtain ⟨p, l, e, R, s, m, args, below, meth, c, D, ad, cy, A, nL, post⟩ := x
  obtain ⟨hx, hb, hml, hown, hts, hK, hlk, hR, hret, hA, hAp, hZ, hl0, hnL, hpost⟩ := C
  intro H locs ls hP hD hS hl
  exact lv_ishr hx hb d (k H locs ls hP hD hS hl)
theorem g_i2l {a : Int32} (C : Cx Λ x l0 own cc rm ret nL0 post0) (d : decode cc pc = .ok (.i2l, 1))  (k : G Λ x (pc + 1) L (.long a.toInt64 :: st) h) : G Λ x pc L (.int a :: st) h := by
  obtain ⟨p, l, e, R, s, m, args, below, meth, c, D, ad, cy, A, nL, post⟩ := x
  obtain ⟨hx, hb, hml, hown, hts, hK, hlk, hR, hret, hA, hAp, hZ, hl0, hnL, hpost⟩ := C
  intro H locs ls hP hD hS hl
  exact lv_i2l hx hb d rfl (k H locs ls hP hD hS hl)
theorem g_l2i {a : Int64} (C : Cx Λ x l0 own cc rm ret nL0 post0) (d : decode cc pc = .ok (.l2i, 1))  (k : G Λ x (pc + 1) L (.int a.toInt32 :: st) h) : G Λ x pc L (.long a :: st) h := by
  obtain ⟨p, l, e, R, s, m, args, below, meth, c, D, ad, cy, A, nL, post⟩ := x
  obtain ⟨hx, hb, hml, hown, hts, hK, hlk, hR, hret, hA, hAp, hZ, hl0, hnL, hpost⟩ := C
  intro H locs ls hP hD hS hl
  exact lv_l2i hx hb d rfl (k H locs ls hP hD hS hl)
theorem g_i2b {a : Int32} (C : Cx Λ x l0 own cc rm ret nL0 post0) (d : decode cc pc = .ok (.i2b, 1))  (k : G Λ x (pc + 1) L (.int a.toInt8.toInt32 :: st) h) : G Λ x pc L (.int a :: st) h := by
  obtain ⟨p, l, e, R, s, m, args, below, meth, c, D, ad, cy, A, nL, post⟩ := x
  obtain ⟨hx, hb, hml, hown, hts, hK, hlk, hR, hret, hA, hAp, hZ, hl0, hnL, hpost⟩ := C
  intro H locs ls hP hD hS hl
  exact lv_i2b hx hb d rfl (k H locs ls hP hD hS hl)
theorem g_lcmp {a b : Int64} (C : Cx Λ x l0 own cc rm ret nL0 post0) (d : decode cc pc = .ok (.lcmp, 1))  (k : G Λ x (pc + 1) L (.int (lg_cmp a b) :: st) h) : G Λ x pc L (.long b :: .long a :: st) h := by
  obtain ⟨p, l, e, R, s, m, args, below, meth, c, D, ad, cy, A, nL, post⟩ := x
  obtain ⟨hx, hb, hml, hown, hts, hK, hlk, hR, hret, hA, hAp, hZ, hl0, hnL, hpost⟩ := C
  intro H locs ls hP hD hS hl
  exact W.lcmp hx hb d (k H locs ls hP hD hS hl)
theorem g_iushr {a b : Int32} (C : Cx Λ x l0 own cc rm ret nL0 post0) (d : decode cc pc = .ok (.iushr, 1))  (k : G Λ x (pc + 1) L (.int ((a.toUInt32 >>> (b.toUInt32 &&& Int32.toUInt32 31)).toInt32) :: st) h) : G Λ x pc L (.int b :: .int a :: st) h := by
  obtain ⟨p, l, e, R, s, m, args, below, meth, c, D, ad, cy, A, nL, post⟩ := x
  obtain ⟨hx, hb, hml, hown, hts, hK, hlk, hR, hret, hA, hAp, hZ, hl0, hnL, hpost⟩ := C
  intro H locs ls hP hD hS hl
  exact lv_iushr hx hb d rfl (k H locs ls hP hD hS hl)
theorem g_dup {v : Value} (C : Cx Λ x l0 own cc rm ret nL0 post0) (d : decode cc pc = .ok (.dup, 1)) (hv : v.category = 1) (k : G Λ x (pc + 1) L (v :: v :: st) h) : G Λ x pc L (v :: st) h := by
  obtain ⟨p, l, e, R, s, m, args, below, meth, c, D, ad, cy, A, nL, post⟩ := x
  obtain ⟨hx, hb, hml, hown, hts, hK, hlk, hR, hret, hA, hAp, hZ, hl0, hnL, hpost⟩ := C
  intro H locs ls hP hD hS hl
  exact lv_dup hx hb d (by rw [cV_cat]; exact hv) (k H locs ls hP hD hS hl)
theorem g_dup2 {u v : Value} (C : Cx Λ x l0 own cc rm ret nL0 post0) (d : decode cc pc = .ok (.dup2, 1)) (hv : v.category = 1) (hu : u.category = 1) (k : G Λ x (pc + 1) L (v :: u :: v :: u :: st) h) : G Λ x pc L (v :: u :: st) h := by
  obtain ⟨p, l, e, R, s, m, args, below, meth, c, D, ad, cy, A, nL, post⟩ := x
  obtain ⟨hx, hb, hml, hown, hts, hK, hlk, hR, hret, hA, hAp, hZ, hl0, hnL, hpost⟩ := C
  intro H locs ls hP hD hS hl
  exact lv_dup2_11 hx hb d (by rw [cV_cat]; exact hv) (by rw [cV_cat]; exact hu) (k H locs ls hP hD hS hl)
theorem g_goto {off : Int} {tgt : Nat} (C : Cx Λ x l0 own cc rm ret nL0 post0) (d : decode cc pc = .ok (.goto off, 3)) (ht : (pc : Int) + off = (tgt : Int)) (k : G Λ x tgt L st h) : G Λ x pc L st h := by
  obtain ⟨p, l, e, R, s, m, args, below, meth, c, D, ad, cy, A, nL, post⟩ := x
  obtain ⟨hx, hb, hml, hown, hts, hK, hlk, hR, hret, hA, hAp, hZ, hl0, hnL, hpost⟩ := C
  intro H locs ls hP hD hS hl
  exact lv_goto hx hb d ht (k H locs ls hP hD hS hl)
theorem g_if_eq {a : Int32} {off : Int} {tgt : Nat} (C : Cx Λ x l0 own cc rm ret nL0 post0) (d : decode cc pc = .ok (.ifCond .eq off, 3)) (ht : (pc : Int) + off = (tgt : Int)) (kt : a = 0 → G Λ x tgt L st h) (kf : ¬ (a = 0) → G Λ x (pc + 3) L st h) : G Λ x pc L (.int a :: st) h := by
  obtain ⟨p, l, e, R, s, m, args, below, meth, c, D, ad, cy, A, nL, post⟩ := x
  obtain ⟨hx, hb, hml, hown, hts, hK, hlk, hR, hret, hA, hAp, hZ, hl0, hnL, hpost⟩ := C
  intro H locs ls hP hD hS hl
  exact lv_if_eq hx hb d ht (fun q => kt q H locs ls hP hD hS hl) (fun q => kf q H locs ls hP hD hS hl)
theorem g_icmp_eq {a b : Int32} {off : Int} {tgt : Nat} (C : Cx Λ x l0 own cc rm ret nL0 post0) (d : decode cc pc = .ok (.if_icmp .eq off, 3)) (ht : (pc : Int) + off = (tgt : Int)) (kt : a = b → G Λ x tgt L st h) (kf : ¬ (a = b) → G Λ x (pc + 3) L st h) : G Λ x pc L (.int b :: .int a :: st) h := by
  obtain ⟨p, l, e, R, s, m, args, below, meth, c, D, ad, cy, A, nL, post⟩ := x
  obtain ⟨hx, hb, hml, hown, hts, hK, hlk, hR, hret, hA, hAp, hZ, hl0, hnL, hpost⟩ := C
  intro H locs ls hP hD hS hl
  exact lv_icmp_eq hx hb d ht (fun q => kt q H locs ls hP hD hS hl) (fun q => kf q H locs ls hP hD hS hl)
theorem g_if_lt {a : Int32} {off : Int} {tgt : Nat} (C : Cx Λ x l0 own cc rm ret nL0 post0) (d : decode cc pc = .ok (.ifCond .lt off, 3)) (ht : (pc : Int) + off = (tgt : Int)) (kt : a < 0 → G Λ x tgt L st h) (kf : ¬ (a < 0) → G Λ x (pc + 3) L st h) : G Λ x pc L (.int a :: st) h := by
  obtain ⟨p, l, e, R, s, m, args, below, meth, c, D, ad, cy, A, nL, post⟩ := x
  obtain ⟨hx, hb, hml, hown, hts, hK, hlk, hR, hret, hA, hAp, hZ, hl0, hnL, hpost⟩ := C
  intro H locs ls hP hD hS hl
  exact lv_if_lt hx hb d ht (fun q => kt q H locs ls hP hD hS hl) (fun q => kf q H locs ls hP hD hS hl)
theorem g_icmp_lt {a b : Int32} {off : Int} {tgt : Nat} (C : Cx Λ x l0 own cc rm ret nL0 post0) (d : decode cc pc = .ok (.if_icmp .lt off, 3)) (ht : (pc : Int) + off = (tgt : Int)) (kt : a < b → G Λ x tgt L st h) (kf : ¬ (a < b) → G Λ x (pc + 3) L st h) : G Λ x pc L (.int b :: .int a :: st) h := by
  obtain ⟨p, l, e, R, s, m, args, below, meth, c, D, ad, cy, A, nL, post⟩ := x
  obtain ⟨hx, hb, hml, hown, hts, hK, hlk, hR, hret, hA, hAp, hZ, hl0, hnL, hpost⟩ := C
  intro H locs ls hP hD hS hl
  exact lv_icmp_lt hx hb d ht (fun q => kt q H locs ls hP hD hS hl) (fun q => kf q H locs ls hP hD hS hl)
theorem g_if_ge {a : Int32} {off : Int} {tgt : Nat} (C : Cx Λ x l0 own cc rm ret nL0 post0) (d : decode cc pc = .ok (.ifCond .ge off, 3)) (ht : (pc : Int) + off = (tgt : Int)) (kt : 0 ≤ a → G Λ x tgt L st h) (kf : ¬ (0 ≤ a) → G Λ x (pc + 3) L st h) : G Λ x pc L (.int a :: st) h := by
  obtain ⟨p, l, e, R, s, m, args, below, meth, c, D, ad, cy, A, nL, post⟩ := x
  obtain ⟨hx, hb, hml, hown, hts, hK, hlk, hR, hret, hA, hAp, hZ, hl0, hnL, hpost⟩ := C
  intro H locs ls hP hD hS hl
  exact lv_if_ge hx hb d ht (fun q => kt q H locs ls hP hD hS hl) (fun q => kf q H locs ls hP hD hS hl)
theorem g_icmp_ge {a b : Int32} {off : Int} {tgt : Nat} (C : Cx Λ x l0 own cc rm ret nL0 post0) (d : decode cc pc = .ok (.if_icmp .ge off, 3)) (ht : (pc : Int) + off = (tgt : Int)) (kt : b ≤ a → G Λ x tgt L st h) (kf : ¬ (b ≤ a) → G Λ x (pc + 3) L st h) : G Λ x pc L (.int b :: .int a :: st) h := by
  obtain ⟨p, l, e, R, s, m, args, below, meth, c, D, ad, cy, A, nL, post⟩ := x
  obtain ⟨hx, hb, hml, hown, hts, hK, hlk, hR, hret, hA, hAp, hZ, hl0, hnL, hpost⟩ := C
  intro H locs ls hP hD hS hl
  exact lv_icmp_ge hx hb d ht (fun q => kt q H locs ls hP hD hS hl) (fun q => kf q H locs ls hP hD hS hl)
theorem g_if_gt {a : Int32} {off : Int} {tgt : Nat} (C : Cx Λ x l0 own cc rm ret nL0 post0) (d : decode cc pc = .ok (.ifCond .gt off, 3)) (ht : (pc : Int) + off = (tgt : Int)) (kt : 0 < a → G Λ x tgt L st h) (kf : ¬ (0 < a) → G Λ x (pc + 3) L st h) : G Λ x pc L (.int a :: st) h := by
  obtain ⟨p, l, e, R, s, m, args, below, meth, c, D, ad, cy, A, nL, post⟩ := x
  obtain ⟨hx, hb, hml, hown, hts, hK, hlk, hR, hret, hA, hAp, hZ, hl0, hnL, hpost⟩ := C
  intro H locs ls hP hD hS hl
  exact lv_if_gt hx hb d ht (fun q => kt q H locs ls hP hD hS hl) (fun q => kf q H locs ls hP hD hS hl)
theorem g_icmp_gt {a b : Int32} {off : Int} {tgt : Nat} (C : Cx Λ x l0 own cc rm ret nL0 post0) (d : decode cc pc = .ok (.if_icmp .gt off, 3)) (ht : (pc : Int) + off = (tgt : Int)) (kt : b < a → G Λ x tgt L st h) (kf : ¬ (b < a) → G Λ x (pc + 3) L st h) : G Λ x pc L (.int b :: .int a :: st) h := by
  obtain ⟨p, l, e, R, s, m, args, below, meth, c, D, ad, cy, A, nL, post⟩ := x
  obtain ⟨hx, hb, hml, hown, hts, hK, hlk, hR, hret, hA, hAp, hZ, hl0, hnL, hpost⟩ := C
  intro H locs ls hP hD hS hl
  exact lv_icmp_gt hx hb d ht (fun q => kt q H locs ls hP hD hS hl) (fun q => kf q H locs ls hP hD hS hl)
theorem g_if_le {a : Int32} {off : Int} {tgt : Nat} (C : Cx Λ x l0 own cc rm ret nL0 post0) (d : decode cc pc = .ok (.ifCond .le off, 3)) (ht : (pc : Int) + off = (tgt : Int)) (kt : a ≤ 0 → G Λ x tgt L st h) (kf : ¬ (a ≤ 0) → G Λ x (pc + 3) L st h) : G Λ x pc L (.int a :: st) h := by
  obtain ⟨p, l, e, R, s, m, args, below, meth, c, D, ad, cy, A, nL, post⟩ := x
  obtain ⟨hx, hb, hml, hown, hts, hK, hlk, hR, hret, hA, hAp, hZ, hl0, hnL, hpost⟩ := C
  intro H locs ls hP hD hS hl
  exact lv_if_le hx hb d ht (fun q => kt q H locs ls hP hD hS hl) (fun q => kf q H locs ls hP hD hS hl)
theorem g_icmp_le {a b : Int32} {off : Int} {tgt : Nat} (C : Cx Λ x l0 own cc rm ret nL0 post0) (d : decode cc pc = .ok (.if_icmp .le off, 3)) (ht : (pc : Int) + off = (tgt : Int)) (kt : a ≤ b → G Λ x tgt L st h) (kf : ¬ (a ≤ b) → G Λ x (pc + 3) L st h) : G Λ x pc L (.int b :: .int a :: st) h := by
  obtain ⟨p, l, e, R, s, m, args, below, meth, c, D, ad, cy, A, nL, post⟩ := x
  obtain ⟨hx, hb, hml, hown, hts, hK, hlk, hR, hret, hA, hAp, hZ, hl0, hnL, hpost⟩ := C
  intro H locs ls hP hD hS hl
  exact lv_icmp_le hx hb d ht (fun q => kt q H locs ls hP hD hS hl) (fun q => kf q H locs ls hP hD hS hl)
theorem g_if_ne {a : Int32} {off : Int} {tgt : Nat} (C : Cx Λ x l0 own cc rm ret nL0 post0) (d : decode cc pc = .ok (.ifCond .ne off, 3)) (ht : (pc : Int) + off = (tgt : Int)) (kt : ¬ (a = 0) → G Λ x tgt L st h) (kf : a = 0 → G Λ x (pc + 3) L st h) : G Λ x pc L (.int a :: st) h := by
  obtain ⟨p, l, e, R, s, m, args, below, meth, c, D, ad, cy, A, nL, post⟩ := x
  obtain ⟨hx, hb, hml, hown, hts, hK, hlk, hR, hret, hA, hAp, hZ, hl0, hnL, hpost⟩ := C
  intro H locs ls hP hD hS hl
  exact lv_if_ne hx hb d ht (fun q => kt q H locs ls hP hD hS hl) (fun q => kf q H locs ls hP hD hS hl)
theorem g_icmp_ne {a b : Int32} {off : Int} {tgt : Nat} (C : Cx Λ x l0 own cc rm ret nL0 post0) (d : decode cc pc = .ok (.if_icmp .ne off, 3)) (ht : (pc : Int) + off = (tgt : Int)) (kt : ¬ (a = b) → G Λ x tgt L st h) (kf : a = b → G Λ x (pc + 3) L st h) : G Λ x pc L (.int b :: .int a :: st) h := by
  obtain ⟨p, l, e, R, s, m, args, below, meth, c, D, ad, cy, A, nL, post⟩ := x
  obtain ⟨hx, hb, hml, hown, hts, hK, hlk, hR, hret, hA, hAp, hZ, hl0, hnL, hpost⟩ := C
  intro H locs ls hP hD hS hl
  exact lv_icmp_ne hx hb d ht (fun q => kt q H locs ls hP hD hS hl) (fun q => kf q H locs ls hP hD hS hl)
theorem g_tableIn {dflt lo hi : Int} {offs : Array Int} {len : Nat} {a : Int32} {off : Int} {tgt : Nat} (C : Cx Λ x l0 own cc rm ret nL0 post0) (d : decode cc pc = .ok (.tableswitch dflt lo hi offs, len)) (h1 : ¬ a.toInt < lo) (h2 : ¬ hi < a.toInt) (ho : offs[(a.toInt - lo).toNat]? = some off) (ht : (pc : Int) + off = (tgt : Int)) (k : G Λ x tgt L st h) : G Λ x pc L (.int a :: st) h := by
  obtain ⟨p, l, e, R, s, m, args, below, meth, c, D, ad, cy, A, nL, post⟩ := x
  obtain ⟨hx, hb, hml, hown, hts, hK, hlk, hR, hret, hA, hAp, hZ, hl0, hnL, hpost⟩ := C
  intro H locs ls hP hD hS hl
  exact lv_tableIn hx hb d h1 h2 ho ht (k H locs ls hP hD hS hl)
theorem g_tableOut {dflt lo hi : Int} {offs : Array Int} {len : Nat} {a : Int32} {tgt : Nat} (C : Cx Λ x l0 own cc rm ret nL0 post0) (d : decode cc pc = .ok (.tableswitch dflt lo hi offs, len)) (h1 : a.toInt < lo ∨ hi < a.toInt) (ht : (pc : Int) + dflt = (tgt : Int)) (k : G Λ x tgt L st h) : G Λ x pc L (.int a :: st) h := by
  obtain ⟨p, l, e, R, s, m, args, below, meth, c, D, ad, cy, A, nL, post⟩ := x
  obtain ⟨hx, hb, hml, hown, hts, hK, hlk, hR, hret, hA, hAp, hZ, hl0, hnL, hpost⟩ := C
  intro H locs ls hP hD hS hl
  exact lv_tableOut hx hb d h1 ht (k H locs ls hP hD hS hl)
theorem g_lookup {dflt : Int} {ps : Array (Int × Int)} {len : Nat} {a : Int32} {off : Int} {tgt : Nat} (C : Cx Λ x l0 own cc rm ret nL0 post0) (d : decode cc pc = .ok (.lookupswitch dflt ps, len)) (hp : (ps.toList.zip (ps.toList.drop 1)).all (fun (a, next) => a.1 < next.1) = true) (ho : Op.lookupswitch.offset ps.toList dflt a.toInt = off) (ht : (pc : Int) + off = (tgt : Int)) (k : G Λ x tgt L st h) : G Λ x pc L (.int a :: st) h := by
  obtain ⟨p, l, e, R, s, m, args, below, meth, c, D, ad, cy, A, nL, post⟩ := x
  obtain ⟨hx, hb, hml, hown, hts, hK, hlk, hR, hret, hA, hAp, hZ, hl0, hnL, hpost⟩ := C
  intro H locs ls hP hD hS hl
  exact lv_lookup hx hb d hp ho ht (k H locs ls hP hD hS hl)
end RULES
