/-! Calls, ends, and what a function's value gives. -/
section CALLS
variable {Λ : Lay} {x : Mx} {l0 : Launch} {own : String} {cc : ByteArray} {rm : Room} {ret : Option FieldType} {nL0 : Nat} {post0 : Option Value → Hp → Prop} {pc : Nat} {L : List (Nat × Value)} {st : List Value} {h : Hp}
theorem Px_blind {Λ : Lay} {D : va_G} {ad : Nat → Nat} {cy : Nat → ClassId} {sz : Nat} {h : Hp} {av : List Value} : FrameBlind (va_Pc av (Px Λ D ad cy sz h)) := by
  intro a U g mk q
  obtain ⟨q0, q1, qP, qK, qD, qZ⟩ := q
  exact ⟨q0, q1, qP, va_K.moved (u := U) (U := U.calling g mk a) (Vm.Alike.refl U.vm) qK, qD, Zs.moved (u := U) (U := U.calling g mk a) (Vm.Alike.refl U.vm) qZ⟩
theorem AA_sub {Λ : Lay} {ad : Nat → Nat} {A : Nat → Prop} {sz sz' : Nat} (hA : ∀ q, sz ≤ q → A q) (hAp : ∀ p, p < Λ.2.2 → A (ad p)) (hs : sz ≤ sz') : ∀ q, AA Λ ad sz' q → A q := by
  intro q hq
  rcases hq with ⟨p, hp, rfl⟩ | hq
  · exact hAp p hp
  · exact hA q (Nat.le_trans hs hq)
/-- behind a call by a contract -/
theorem g_run {p : Program} {l : Launch} {e : Env} {R : Room} {s : State} {m : MethodId} {args : Array Value} {below : List Frame} {meth : Method} {c : Code} {D : va_G} {ad : Nat → Nat} {cy : Nat → ClassId} {A : Nat → Prop} {nL : Nat} {post post' : Option Value → Hp → Prop} {H : Heap} {locs : List Loc} {ls : Array Slot} {st0 : List Value} {a : Array Value} (hA : ∀ q, s.heap.size ≤ q → A q) (hAp : ∀ p, p < Λ.2.2 → A (ad p))
    (hr : va_Run p l e R s m args below meth c H locs 0 0 0 0 (F0 m pc ls st0) (st.map (cV ad)) (Qx Λ D ad cy (AA Λ ad H.size) post' a) (AA Λ ad H.size)) (hS : va_S A s.heap H locs) (hl : lv_has ls nL (cL ad L))
    (k : ∀ r h', post' r h' → G Λ (p, l, e, R, s, m, args, below, meth, c, D, ad, cy, A, nL, post) (pc + 3) L (r.toList ++ st) h') : W p l e R s m args below meth c H locs 0 0 (MQ below (Qx Λ D ad cy A post) args s 0 0 A) (F0 m pc ls st0) := by
  intro T hT X
  obtain ⟨v, st₀, t, T', Lc, h0, X', hL, e1, e2, ⟨⟨r, h', hv, hp, hP1, hK1, hD1⟩, hz, hk⟩, stp⟩ := hr T hT X
  have hsub := AA_sub (Λ := Λ) (ad := ad) hA hAp hS.1
  rw [h0] at hz hk
  have hv' : v = r.map (cV ad) := by injection hv
  subst hv'
  have hS' : va_S A s.heap T'.heap (locs ++ Lc) := ⟨Nat.le_trans hS.1 (by rw [e1]; exact hz), fun q h1 h2 => by rw [e1, hk q (Nat.lt_of_lt_of_le h1 hS.1) (fun z => h2 (hsub q z))]; exact hS.2.1 q h1 h2, fun q hq => by
      rcases List.mem_append.mp hq with h | h
      · exact hS.2.2 q h
      · exact hsub _ (hL q h)⟩
  have K := k r h' hp T'.heap (locs ++ Lc) ls (by rw [e1]; exact hP1) (hD1.weaken (fun _ q _ hq => hsub _ hq)) hS' hl
  obtain ⟨t2, a1, b1⟩ := K T' rfl X'
  refine ⟨t2, stp t2 ?_, b1⟩
  have he : (r.toList ++ st).map (cV ad) = (r.map (cV ad)).toList ++ st.map (cV ad) := by cases r <;> simp
  rw [he] at a1
  exact a1
theorem Px_of {p : Nat} {s : State} {D : va_G} {ad : Nat → Nat} {cy : Nat → ClassId} {A : Nat → Prop} {H : Heap} {locs : List Loc} (hK : va_K D vwCl (tysU cy) s) (hA : ∀ q, s.heap.size ≤ q → A q) (hAp : ∀ p, p < Λ.2.2 → A (ad p)) (hZ : Zs A s s.heap) (hP : va_P D vwCl (wd Λ ad cy h) H) (hD : va_D A (wd Λ ad cy h)) (hS : va_S A s.heap H locs) (U : State) (hU : U.heap = H) (hW : s.WarmedH U.vm) : Px Λ D ad cy H.size h U := by
  refine ⟨by rw [hU], by rw [hU]; exact hP, va_K.moved hW.alike hK, ⟨hD.1, fun k q hk => ?_⟩, ?_⟩
  · unfold wd at hk
    rw [List.getElem?_map] at hk
    cases hr : (List.range Λ.2.2)[k]? with
    | none => rw [hr] at hk; cases hk
    | some j =>
      rw [hr] at hk
      have hj : j < Λ.2.2 := List.mem_range.mp (List.mem_of_getElem? hr)
      have : q = (ad j, ent Λ ad cy h j) := by injection hk with hk; exact hk.symm
      subst this
      exact Or.inl ⟨j, hj, rfl⟩
  · have h1 : Zs A s H := hZ.kept (fun a ha hn => hS.2.1 a ha hn)
    rw [hU]
    exact (h1.moved hW.alike).narrow (AA_sub hA hAp hS.1)
theorem in_wsV {own : String} {idx : Nat} {C : String} {y : MethodName} {cd : Cond} (m1 : Cond.methodLink own idx y ∈ wU) (m2 : Cond.instanceMethod y ∈ wU) (m3 : Cond.selects C y y ∈ wU) (m4 : Cond.initialized C ∈ wU) (m5 : cd ∈ wU) : GoodIn wU (wsV own idx C y (cd :: wU)) := by
  have hm : ∀ w ∈ wsV own idx C y (cd :: wU), w ∈ wU := by
    intro w hw
    unfold wsV at hw
    rcases List.mem_append.mp hw with hw | hw
    · simp only [List.mem_cons, List.not_mem_nil, or_false] at hw
      rcases hw with rfl | rfl | rfl | rfl
      · exact m1
      · exact m2
      · exact m3
      · exact m4
    · rcases List.mem_cons.mp hw with rfl | hw
      · exact m5
      · exact hw
  exact fun w hw => ⟨hm w hw, good_of_word (List.mem_filter.mp (hm w hw)).2⟩
theorem in_wsS {own : String} {idx : Nat} {y : MethodName} {cd : Cond} (m1 : Cond.methodLink own idx y ∈ wU) (m2 : Cond.static y ∈ wU) (m4 : Cond.initialized own ∈ wU) (m5 : cd ∈ wU) : GoodIn wU (wsS own idx y (cd :: wU)) := by
  have hm : ∀ w ∈ wsS own idx y (cd :: wU), w ∈ wU := by
    intro w hw
    unfold wsS at hw
    rcases List.mem_append.mp hw with hw | hw
    · simp only [List.mem_cons, List.not_mem_nil, or_false] at hw
      rcases hw with rfl | rfl | rfl
      · exact m1
      · exact m2
      · exact m4
    · rcases List.mem_cons.mp hw with rfl | hw
      · exact m5
      · exact hw
  exact fun w hw => ⟨hm w hw, good_of_word (List.mem_filter.mp (hm w hw)).2⟩
/-- what the tables say of a method that is called by its object -/
def Yv (y : MethodName) (C : String) (ci : Nat) (bytes : ByteArray) (maxL : Nat) (ret : Option FieldType) (n : Nat) : Prop := Cond.instanceMethod y ∈ wU ∧ Cond.selects C y y ∈ wU ∧ Cond.initialized C ∈ wU ∧ Cond.code y bytes maxL ret ∈ wU ∧ (y.cls = C ∧ y.cls ≠ "java/lang/invoke/MethodHandle" ∧ y.cls ≠ "java/lang/invoke/VarHandle" ∧ (parseMethodDescriptor y.desc).map (fun d => d.parameters.length) = some n) ∧ ci < 13 ∧ ∃ q : vw_C, vwCl[ci]? = some q ∧ q.1 = C
def Ys (y : MethodName) (bytes : ByteArray) (maxL : Nat) (ret : Option FieldType) (n : Nat) : Prop := Cond.static y ∈ wU ∧ Cond.initialized y.cls ∈ wU ∧ Cond.code y bytes maxL ret ∈ wU ∧ (y.cls ≠ "java/lang/invoke/MethodHandle" ∧ y.cls ≠ "java/lang/invoke/VarHandle" ∧ (parseMethodDescriptor y.desc).map (fun d => d.parameters.length) = some n)
theorem g_callV {y : MethodName} {CN : String} {bytes : ByteArray} {maxL n idx p ci : Nat} {ret' : Option FieldType} {rm' : Room} {As stk : List Value} {post' : Option Value → Hp → Prop} (C : Cx Λ x l0 own cc rm ret nL0 post0) (d : decode cc pc = .ok (.invokevirtual idx, 3)) (hm : Cond.methodLink own idx y ∈ wU) (Y : Yv y CN ci bytes maxL ret' n) (hc : rm'.cells = 0 ∧ rm'.slots = 0) (hR : rm'.frames + 1 ≤ rm.frames ∧ 8 + (maxL + 11) + rm'.locals ≤ rm.locals) (hp : p < Λ.2.2) (hk : Λ.1 p = ci) (hn : As.length = n) (hs : stk = As.reverse ++ .ref p :: st) (hw : (st.map fun v => v.category).sum ≤ 8) (ok : Ok Λ l0 y bytes maxL ret' rm' (.ref p :: As) h post') (k : ∀ r h', post' r h' → G Λ x (pc + 3) L (r.toList ++ st) h') : G Λ x pc L stk h := by
  subst hs
  obtain ⟨p', l, e, R, s, m, args, below, meth, c, D, ad, cy, A, nL, post⟩ := x
  obtain ⟨hx, hb, hml, hown, hts, hK, hlk, hRR, hret, hA, hAp, hZ, hl0, hnL, hpost⟩ := C
  obtain ⟨y2, y3, y4, y5, y6, y7, q, y8, y9⟩ := Y
  intro H locs ls hP hD hS hl
  subst hl0
  subst hRR
  have hst : (As.reverse ++ .ref p :: st).map (cV ad) = (As.map (cV ad)).reverse ++ .ref (ad p) :: st.map (cV ad) := by
    rw [List.map_append, List.map_reverse]; rfl
  rw [hst]
  have hrest : ((st.map (cV ad)).map fun v => v.category).sum ≤ 8 := by
    rw [List.map_map]
    have : ((fun v => v.category) ∘ cV ad) = (fun v : Value => v.category) := by funext v; exact cV_cat ad v
    rw [this]; exact hw
  refine g_run hA hAp (va_runV (As := As.map (cV ad)) (rest := st.map (cV ad)) (n := n) ⟨hx, hb, hml, hown, hts⟩ (ok D ad cy H.size) (cwV n hts (in_wsV hm y2 y3 y4 y5) rfl hc.1 hc.2 y6 hR) ⟨Px_blind, ?_, fun U hU hW => ⟨rfl, Px_of (p := p) hK hA hAp hZ hP hD hS U hU hW⟩⟩ rfl (by rw [List.length_map]; exact hn) hl.1 rfl (lv_room hrest) d ⟨Nat.zero_le _, Nat.zero_le _⟩) hS hl k
  have := va_recv hK hP y8 (q0 := p) (a := ad p) (fs := (List.range (nF ci)).map (fval Λ ad h p)) (by rw [wd_at hp, ent_obj hk y7])
  rw [y9] at this
  exact this
theorem g_callS {y : MethodName} {bytes : ByteArray} {maxL n idx : Nat} {ret' : Option FieldType} {rm' : Room} {As stk : List Value} {post' : Option Value → Hp → Prop} (C : Cx Λ x l0 own cc rm ret nL0 post0) (d : decode cc pc = .ok (.invokestatic idx, 3)) (hm : Cond.methodLink own idx y ∈ wU) (Y : Ys y bytes maxL ret' n) (hc : rm'.cells = 0 ∧ rm'.slots = 0) (hR : rm'.frames + 1 ≤ rm.frames ∧ 8 + (maxL + 11) + rm'.locals ≤ rm.locals) (hn : As.length = n) (hs : stk = As.reverse ++ st) (hw : (st.map fun v => v.category).sum ≤ 8) (ok : Ok Λ l0 y bytes maxL ret' rm' As h post') (k : ∀ r h', post' r h' → G Λ x (pc + 3) L (r.toList ++ st) h') : G Λ x pc L stk h := by
  subst hs
  obtain ⟨p', l, e, R, s, m, args, below, meth, c, D, ad, cy, A, nL, post⟩ := x
  obtain ⟨hx, hb, hml, hown, hts, hK, hlk, hRR, hret, hA, hAp, hZ, hl0, hnL, hpost⟩ := C
  obtain ⟨y2, y4, y5, y6⟩ := Y
  intro H locs ls hP hD hS hl
  subst hl0
  subst hRR
  have hst : (As.reverse ++ st).map (cV ad) = (As.map (cV ad)).reverse ++ st.map (cV ad) := by
    rw [List.map_append, List.map_reverse]
  rw [hst]
  have hrest : ((st.map (cV ad)).map fun v => v.category).sum ≤ 8 := by
    rw [List.map_map]
    have : ((fun v => v.category) ∘ cV ad) = (fun v : Value => v.category) := by funext v; exact cV_cat ad v
    rw [this]; exact hw
  have hG : GoodIn wU (Cond.code y bytes maxL ret' :: wU) := by
    intro w hw
    have hm : w ∈ wU := by
      rcases List.mem_cons.mp hw with rfl | hw
      · exact y5
      · exact hw
    exact ⟨hm, good_of_word (List.mem_filter.mp hm).2⟩
  exact g_run hA hAp (va_runS (As := As.map (cV ad)) (rest := st.map (cV ad)) (n := n) ⟨hx, hb, hml, hown, hts⟩ (ok D ad cy H.size) ⟨callB_of n hts hG rfl hc.1 hc.2 (hts _ y4) (hts _ hm) y6 hR, hts _ y2⟩ ⟨Px_blind, fun U hU hW => ⟨rfl, Px_of (p := 0) hK hA hAp hZ hP hD hS U hU hW⟩⟩ rfl (by rw [List.length_map]; exact hn) hl.1 rfl (lv_room hrest) d ⟨Nat.zero_le _, Nat.zero_le _⟩) hS hl k
theorem g_iret {v : Int32} (C : Cx Λ x l0 own cc rm (some .int) nL0 post0) (d : decode cc pc = .ok (.ireturn, 1)) (hp : post0 (some (.int v)) h) : G Λ x pc L [.int v] h := by
  obtain ⟨p', l, e, R, s, m, args, below, meth, c, D, ad, cy, A, nL, post⟩ := x
  obtain ⟨hx, hb, hml, hown, hts, hK, hlk, hR, hret, hA, hAp, hZ, hl0, hnL, hpost⟩ := C
  intro H locs ls hP hD hS hl
  exact W.iret (v := v) hx hb hret (fun t ht hW => ⟨⟨some (.int v), h, rfl, by rw [hpost]; exact hp, by rw [ht]; exact hP, va_K.moved hW.alike hK, hD⟩, hS.F ht⟩) hS.2.2 d hlk
theorem g_zret {v : Int32} (C : Cx Λ x l0 own cc rm (some .boolean) nL0 post0) (d : decode cc pc = .ok (.ireturn, 1)) (hv : v = 0 ∨ v = 1) (hp : post0 (some (.int v)) h) : G Λ x pc L [.int v] h := by
  obtain ⟨p', l, e, R, s, m, args, below, meth, c, D, ad, cy, A, nL, post⟩ := x
  obtain ⟨hx, hb, hml, hown, hts, hK, hlk, hR, hret, hA, hAp, hZ, hl0, hnL, hpost⟩ := C
  intro H locs ls hP hD hS hl
  exact W.zret (v := v) hx hb hret (by rcases hv with rfl | rfl <;> rfl) (fun t ht hW => ⟨⟨some (.int v), h, rfl, by rw [hpost]; exact hp, by rw [ht]; exact hP, va_K.moved hW.alike hK, hD⟩, hS.F ht⟩) hS.2.2 d hlk
theorem g_lret {v : Int64} (C : Cx Λ x l0 own cc rm (some .long) nL0 post0) (d : decode cc pc = .ok (.lreturn, 1)) (hp : post0 (some (.long v)) h) : G Λ x pc L [.long v] h := by
  obtain ⟨p', l, e, R, s, m, args, below, meth, c, D, ad, cy, A, nL, post⟩ := x
  obtain ⟨hx, hb, hml, hown, hts, hK, hlk, hR, hret, hA, hAp, hZ, hl0, hnL, hpost⟩ := C
  intro H locs ls hP hD hS hl
  exact W.lret (v := v) hx hb hret (fun t ht hW => ⟨⟨some (.long v), h, rfl, by rw [hpost]; exact hp, by rw [ht]; exact hP, va_K.moved hW.alike hK, hD⟩, hS.F ht⟩) hS.2.2 d hlk
theorem g_vret (C : Cx Λ x l0 own cc rm none nL0 post0) (d : decode cc pc = .ok (.return_, 1)) (hp : post0 none h) : G Λ x pc L [] h := by
  obtain ⟨p', l, e, R, s, m, args, below, meth, c, D, ad, cy, A, nL, post⟩ := x
  obtain ⟨hx, hb, hml, hown, hts, hK, hlk, hR, hret, hA, hAp, hZ, hl0, hnL, hpost⟩ := C
  intro H locs ls hP hD hS hl
  exact W.vret hx hb hret (fun t ht hW => ⟨⟨none, h, rfl, by rw [hpost]; exact hp, by rw [ht]; exact hP, va_K.moved hW.alike hK, hD⟩, hS.F ht⟩) hS.2.2 d hlk
theorem g_mmin {a b : Int32} {idx : Nat} (C : Cx Λ x l0 own cc rm ret nL0 post0) (d : decode cc pc = .ok (.invokestatic idx, 3)) (hm : Cond.methodLink own idx Lib.Math.min.name ∈ wU) (h1 : Cond.static Lib.Math.min.name ∈ wU) (h2 : Cond.initialized "java/lang/Math" ∈ wU) (h3 : Cond.code Lib.Math.min.name Lib.Math.min.code 2 (some .int) ∈ wU) (hf : 1 ≤ rm.frames) (hw : (st.map fun v => v.category).sum + 13 ≤ rm.locals) (k : G Λ x (pc + 3) L (.int (if b < a then b else a) :: st) h) : G Λ x pc L (.int b :: .int a :: st) h := by
  obtain ⟨p', l, e, R, s, m, args, below, meth, c, D, ad, cy, A, nL, post⟩ := x
  obtain ⟨hx, hb, hml, hown, hts, hK, hlk, hRR, hret, hA, hAp, hZ, hl0, hnL, hpost⟩ := C
  intro H locs ls hP hD hS hl
  subst hRR
  have hrest : ((st.map (cV ad)).map fun v => v.category).sum + 13 ≤ R.locals := by
    rw [List.map_map]
    have : ((fun v => v.category) ∘ cV ad) = (fun v : Value => v.category) := by funext v; exact cV_cat ad v
    rw [this]; exact hw
  exact va_mmin hx hb (hml.trans hl.1.symm) hown (hts _ hm) (hts _ h1) (hts _ h2) (hts _ h3) hf hrest (Nat.zero_le _) (Nat.zero_le _) d (k H locs ls hP hD hS hl)
theorem g_mmax {a b : Int32} {idx : Nat} (C : Cx Λ x l0 own cc rm ret nL0 post0) (d : decode cc pc = .ok (.invokestatic idx, 3)) (hm : Cond.methodLink own idx Lib.Math.max.name ∈ wU) (h1 : Cond.static Lib.Math.max.name ∈ wU) (h2 : Cond.initialized "java/lang/Math" ∈ wU) (h3 : Cond.code Lib.Math.max.name Lib.Math.max.code 2 (some .int) ∈ wU) (hf : 1 ≤ rm.frames) (hw : (st.map fun v => v.category).sum + 13 ≤ rm.locals) (k : G Λ x (pc + 3) L (.int (if a < b then b else a) :: st) h) : G Λ x pc L (.int b :: .int a :: st) h := by
  obtain ⟨p', l, e, R, s, m, args, below, meth, c, D, ad, cy, A, nL, post⟩ := x
  obtain ⟨hx, hb, hml, hown, hts, hK, hlk, hRR, hret, hA, hAp, hZ, hl0, hnL, hpost⟩ := C
  intro H locs ls hP hD hS hl
  subst hRR
  have hrest : ((st.map (cV ad)).map fun v => v.category).sum + 13 ≤ R.locals := by
    rw [List.map_map]
    have : ((fun v => v.category) ∘ cV ad) = (fun v : Value => v.category) := by funext v; exact cV_cat ad v
    rw [this]; exact hw
  exact va_mmax hx hb (hml.trans hl.1.symm) hown (hts _ hm) (hts _ h1) (hts _ h2) (hts _ h3) hf hrest (Nat.zero_le _) (Nat.zero_le _) d (k H locs ls hP hD hS hl)
theorem g_mminL {a b : Int64} {idx : Nat} (C : Cx Λ x l0 own cc rm ret nL0 post0) (d : decode cc pc = .ok (.invokestatic idx, 3)) (hm : Cond.methodLink own idx Lib.MathLoose.min_long.x ∈ wU) (h1 : Cond.static Lib.MathLoose.min_long.x ∈ wU) (h2 : Cond.initialized "java/lang/Math" ∈ wU) (h3 : Cond.code Lib.MathLoose.min_long.x Lib.MathLoose.min_long.code 4 (some .long) ∈ wU) (hf : 1 ≤ rm.frames) (hw : (st.map fun v => v.category).sum + 15 ≤ rm.locals) (k : G Λ x (pc + 3) L (.long (if b < a then b else a) :: st) h) : G Λ x pc L (.long b :: .long a :: st) h := by
  obtain ⟨p', l, e, R, s, m, args, below, meth, c, D, ad, cy, A, nL, post⟩ := x
  obtain ⟨hx, hb, hml, hown, hts, hK, hlk, hRR, hret, hA, hAp, hZ, hl0, hnL, hpost⟩ := C
  intro H locs ls hP hD hS hl
  subst hRR
  have hrest : ((st.map (cV ad)).map fun v => v.category).sum + 15 ≤ R.locals := by
    rw [List.map_map]
    have : ((fun v => v.category) ∘ cV ad) = (fun v : Value => v.category) := by funext v; exact cV_cat ad v
    rw [this]; exact hw
  exact va_mmin_long hx hb (hml.trans hl.1.symm) hown (hts _ hm) (hts _ h1) (hts _ h2) (hts _ h3) hf hrest (Nat.zero_le _) (Nat.zero_le _) d (k H locs ls hP hD hS hl)
theorem g_mmaxL {a b : Int64} {idx : Nat} (C : Cx Λ x l0 own cc rm ret nL0 post0) (d : decode cc pc = .ok (.invokestatic idx, 3)) (hm : Cond.methodLink own idx Lib.MathLoose.max_long.x ∈ wU) (h1 : Cond.static Lib.MathLoose.max_long.x ∈ wU) (h2 : Cond.initialized "java/lang/Math" ∈ wU) (h3 : Cond.code Lib.MathLoose.max_long.x Lib.MathLoose.max_long.code 4 (some .long) ∈ wU) (hf : 1 ≤ rm.frames) (hw : (st.map fun v => v.category).sum + 15 ≤ rm.locals) (k : G Λ x (pc + 3) L (.long (if b < a then a else b) :: st) h) : G Λ x pc L (.long b :: .long a :: st) h := by
  obtain ⟨p', l, e, R, s, m, args, below, meth, c, D, ad, cy, A, nL, post⟩ := x
  obtain ⟨hx, hb, hml, hown, hts, hK, hlk, hRR, hret, hA, hAp, hZ, hl0, hnL, hpost⟩ := C
  intro H locs ls hP hD hS hl
  subst hRR
  have hrest : ((st.map (cV ad)).map fun v => v.category).sum + 15 ≤ R.locals := by
    rw [List.map_map]
    have : ((fun v => v.category) ∘ cV ad) = (fun v : Value => v.category) := by funext v; exact cV_cat ad v
    rw [this]; exact hw
  exact va_mmax_long hx hb (hml.trans hl.1.symm) hown (hts _ hm) (hts _ h1) (hts _ h2) (hts _ h3) hf hrest (Nat.zero_le _) (Nat.zero_le _) d (k H locs ls hP hD hS hl)
theorem g_copy {p q idx : Nat} {sp dp n : Int32} {h' : Hp} (C : Cx Λ x l0 own cc rm ret nL0 post0) (d : decode cc pc = .ok (.invokestatic idx, 3)) (hm : Cond.methodLink own idx arraycopyName ∈ wU) (h1 : Cond.native arraycopyName ∈ wU) (h2 : Cond.static arraycopyName ∈ wU) (h3 : Cond.initialized "java/lang/System" ∈ wU) (hp : p < Λ.2.2) (hk : Λ.1 p = 14) (hq : q < Λ.2.2) (hk2 : Λ.1 q = 14) (n1 : ¬ sp < 0) (n2 : ¬ dp < 0) (n3 : ¬ n < 0) (n4 : ix sp + ix n ≤ Λ.2.1 p) (n5 : ix dp + ix n ≤ Λ.2.1 q) (hf : 1 ≤ rm.frames) (hw : (st.map fun v => v.category).sum + (nativeFrameWords "java/lang/System" "arraycopy" 5 + 11) ≤ rm.locals) (hh : h' = wC h p q (ix sp) (ix dp) (ix n)) (k : G Λ x (pc + 3) L st h') : G Λ x pc L (.int n :: .int dp :: .ref q :: .int sp :: .ref p :: st) h := by
  subst hh
  obtain ⟨p', l, e, R, s, m, args, below, meth, c, D, ad, cy, A, nL, post⟩ := x
  obtain ⟨hx, hb, hml, hown, hts, hK, hlk, hRR, hret, hA, hAp, hZ, hl0, hnL, hpost⟩ := C
  intro H locs ls hP hD hS hl
  subst hRR
  have hrest : ((st.map (cV ad)).map fun v => v.category).sum + (nativeFrameWords "java/lang/System" "arraycopy" 5 + 11) ≤ R.locals := by
    rw [List.map_map]
    have : ((fun v => v.category) ∘ cV ad) = (fun v : Value => v.category) := by funext v; exact cV_cat ad v
    rw [this]; exact hw
  have e1 : (wd Λ ad cy h).set q (ad q, .inl (cy 1, Λ.2.1 q, .inl (va_cpy (h.1 p) (h.1 q) (ix sp) (ix dp) (ix n)))) = wd Λ ad cy (wC h p q (ix sp) (ix dp) (ix n)) := by
    refine wd_set ?_ (fun r hr => ent_o (if_neg hr) rfl rfl)
    rw [ent_int hk2 (by omega)]
    show Sum.inl (cy 1, Λ.2.1 q, Sum.inl (if q = q then va_cpy (h.1 p) (h.1 q) (ix sp) (ix dp) (ix n) else h.1 q)) = _
    rw [if_pos rfl]
  refine va_copyi (ws := wd Λ ad cy h) hx hb (hml.trans hl.1.symm) hown (hts _ hm) (hts _ h1) (hts _ h2) (hts _ h3) hK hP hD hS p q 1 1 (c0 := cy 1) (c1 := cy 1) (n0 := Λ.2.1 p) (n1 := Λ.2.1 q) (f := h.1 p) (g := h.1 q) (ty := .int) (by rw [wd_at hp, ent_int hk (by omega)]) (by rw [wd_at hq, ent_int hk2 (by omega)]) rfl rfl rfl n1 n2 n3 n4 n5 (fun _ _ => rfl) hf hrest d (fun H1 locs1 hP1 hD1 hS1 => ?_)
  have hP2 : va_P D vwCl (wd Λ ad cy (wC h p q (ix sp) (ix dp) (ix n))) H1 := by rw [← e1]; exact hP1
  have hD2 : va_D A (wd Λ ad cy (wC h p q (ix sp) (ix dp) (ix n))) := by rw [← e1]; exact hD1
  exact k H1 locs1 ls hP2 hD2 hS1 hl
/-- the table of words: its length, and a place of it -/
theorem g_langLen {idx : Nat} (C : Cx Λ x l0 own cc rm ret nL0 post0) (d : decode cc pc = .ok (.getstatic idx, 3)) (d2 : decode cc (pc + 3) = .ok (.arraylength, 1)) (hm : Cond.fieldLink own idx "LaughDrum$Reader" "LANGUAGE" "[I" ∈ wU) (k : G Λ x (pc + 3 + 1) L (.int 20 :: st) h) : G Λ x pc L st h := by
  obtain ⟨p', l, e, R, s, m, args, below, meth, c, D, ad, cy, A, nL, post⟩ := x
  obtain ⟨hx, hb, hml, hown, hts, hK, hlk, hRR, hret, hA, hAp, hZ, hl0, hnL, hpost⟩ := C
  intro H locs ls hP hD hS hl
  obtain ⟨t, z1, z2⟩ := hZ
  exact va_gets hx hb z1 hS hown (hts _ hm) (fun _ q => q) d (va_tlen hx hb z2 hS rfl d2 (k H locs ls hP hD hS hl))
theorem g_langAt {idx q : Nat} {i : Fin 4} {i0 : Nat} {v : Int32} (C : Cx Λ x l0 own cc rm ret nL0 post0) (d : decode cc pc = .ok (.getstatic idx, 3)) (d2 : decode cc (pc + 3) = .ok (.iload_n i, 1)) (hi : (i : Nat) = i0) (hq : L[q]? = some (i0, .int v)) (d3 : decode cc (pc + 3 + 1) = .ok (.iaload, 1)) (hm : Cond.fieldLink own idx "LaughDrum$Reader" "LANGUAGE" "[I" ∈ wU) (hin : inb v 20 = true) (k : G Λ x (pc + 3 + 1 + 1) L (.int (langF (ix v)) :: st) h) : G Λ x pc L st h := by
  obtain ⟨p', l, e, R, s, m, args, below, meth, c, D, ad, cy, A, nL, post⟩ := x
  obtain ⟨hx, hb, hml, hown, hts, hK, hlk, hRR, hret, hA, hAp, hZ, hl0, hnL, hpost⟩ := C
  intro H locs ls hP hD hS hl
  obtain ⟨t, z1, z2⟩ := hZ
  exact va_gets hx hb z1 hS hown (hts _ hm) (fun _ q => q) d (lv_iload_n hx hb d2 hi (lv_at hl q (cL_get ad hq)) (va_ti hx hb z2 hS (inb_in hin) rfl d3 (k H locs ls hP hD hS hl)))
end CALLS
