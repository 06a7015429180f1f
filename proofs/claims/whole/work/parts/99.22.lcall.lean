/-! The layer for the law: calls of the class and of the reference. -/
section LCALL
variable {x : Lx} {pc : Nat} {V : List (Nat × Value)} {st : List Value} {hc hm : Hp} {f : Nat → Int64} {cells slots i : Nat}
theorem wU_all {args : Array Value} {s : State} (h : ∀ w ∈ lw_tbl, w.before args s = true) : ∀ w ∈ wU, w.before args s = true := fun w hw => h w (wU_tbl w hw)
/-- a call by contract over one of the worlds: what comes back -/
theorem l_run {Λ : Lay} {ad : Nat → Nat} {cy : Nat → ClassId} {y : MethodName} {CN : String} {bytes : ByteArray} {maxL n idx ci : Nat} {ret' : Option FieldType} {rm' : Room} {As : List Value} {h : Hp} {post' : Option Value → Hp → Prop} {p : Program} {l : Launch} {e : Env} {s : State} {m : MethodId} {args : Array Value} {below : List Frame} {meth : Method} {c : Code} {D : va_G} {Q : State → Prop} {H : Heap} {locs : List Loc} {ls : Array Slot}
    (hx : p.tables.exec = Jvm.exec) (hb : c.code = cL_law) (hml : c.maxLocals = 7) (hown : s.vm.findClass RL = some m.cls) (hts : ∀ w ∈ wU, w.before args s = true) (hK : va_K D vwCl (tysU cy) s) (hZ : Zs (LA s) s s.heap) (hA : ∀ p, p < Λ.2.2 → s.heap.size ≤ ad p) (hi : ∀ p q, p < Λ.2.2 → q < Λ.2.2 → ad p = ad q → p = q)
    (d : decode cL_law pc = .ok (.invokevirtual idx, 3)) (hml' : Cond.methodLink RL idx y ∈ wU) (Y : Yv y CN ci bytes maxL ret' n) (hc : rm'.cells = 0 ∧ rm'.slots = 0) (hR : rm'.frames + 1 ≤ room_1.frames ∧ 8 + (maxL + 11) + rm'.locals ≤ room_1.locals) (hcs : cells ≤ room_1.cells ∧ slots ≤ room_1.slots) (hp : 0 < Λ.2.2) (hk : Λ.1 0 = ci) (hn : As.length = n) (hAs : As.map (cV ad) = As) (hw : (st.map fun v => v.category).sum ≤ 8) (ok : Ok Λ l y bytes maxL ret' rm' (.ref 0 :: As) h post')
    (hP : va_P D vwCl (wd Λ ad cy h) H) (hS : va_S (LA s) s.heap H locs) (hl : ls.size = 7)
    (k : ∀ r h' H1 locs1, post' r h' → va_P D vwCl (wd Λ ad cy h') H1 → (∀ q : Nat, q < H.size → (∀ p, p < Λ.2.2 → q ≠ ad p) → H1[q]? = H[q]?) → va_S (LA s) s.heap H1 locs1 → W p l e room_1 s m args below meth c H1 locs1 cells slots Q (F0 m (pc + 3) ls ((r.map (cV ad)).toList ++ st))) : W p l e room_1 s m args below meth c H locs cells slots Q (F0 m pc ls (As.reverse ++ .ref (ad 0) :: st)) := by
  obtain ⟨y2, y3, y4, y5, y6, y7, q, y8, y9⟩ := Y
  have hA0 : ∀ q, s.heap.size ≤ q → LA s q := fun _ h => h
  have hAp : ∀ p, p < Λ.2.2 → LA s (ad p) := fun p hp => hA p hp
  have hD : va_D (LA s) (wd Λ ad cy h) := wd_D hi hAp
  have hrecv : ∃ cell : Cell, H[ad 0]? = some cell ∧ cell.vm.isStatics = false ∧ s.vm.findClass CN = some cell.cls := by
    have := va_recv hK hP y8 (q0 := 0) (a := ad 0) (fs := (List.range (nF ci)).map (fval Λ ad h 0)) (by rw [wd_at hp, ent_obj hk y7])
    rw [y9] at this
    exact this
  have ok' := ok D ad cy H.size
  rw [show (Value.ref 0 :: As).map (cV ad) = .ref (ad 0) :: As from by rw [List.map_cons, hAs]; rfl] at ok'
  have hr := va_runV (e := e) (below := below) (meth := meth) (locs := locs) (cells := cells) (slots := slots) (As := As) (rest := st) (n := n) (b := ad 0) (g := F0 m pc ls (As.reverse ++ .ref (ad 0) :: st)) ⟨hx, hb, hml, hown, hts⟩ ok' (cwV n hts (in_wsV hml' y2 y3 y4 y5) rfl hc.1 hc.2 y6 hR) ⟨Px_blind, hrecv, fun U hU hW => ⟨rfl, Px_of (p := 0) hK hA0 hAp hZ hP hD hS U hU hW⟩⟩ rfl hn hl rfl (lv_room hw) d ⟨by simpa using hcs.1, by simpa using hcs.2⟩
  intro T hT X
  obtain ⟨v, st₀, t, T', Lc, h0, X', hL, e1, e2, ⟨⟨r, h', hv, hp', hP1, hK1, hD1⟩, hz, hkq⟩, stp⟩ := hr T hT X
  have hsub := AA_sub (Λ := Λ) (ad := ad) (A := LA s) hA0 hAp hS.1
  rw [h0] at hz hkq
  have hv' : v = r.map (cV ad) := by injection hv
  subst hv'
  have hS' : va_S (LA s) s.heap T'.heap (locs ++ Lc) := ⟨Nat.le_trans hS.1 (by rw [e1]; exact hz), fun q h1 h2 => by rw [e1, hkq q (Nat.lt_of_lt_of_le h1 hS.1) (fun z => h2 (hsub q z))]; exact hS.2.1 q h1 h2, fun q hq => by
      rcases List.mem_append.mp hq with h | h
      · exact hS.2.2 q h
      · exact hsub _ (hL q h)⟩
  have KK := k r h' T'.heap (locs ++ Lc) hp' (by rw [e1]; exact hP1) (fun q h1 h2 => by
    rw [e1]
    refine hkq q h1 (fun z => ?_)
    rcases z with ⟨p, hp, e⟩ | z
    · exact h2 p hp e
    · omega) hS'
  obtain ⟨t2, a1, b1⟩ := KK T' rfl X'
  exact ⟨t2, stp t2 a1, b1⟩
theorem keep_wd {Λ : Lay} {ad : Nat → Nat} {cy : Nat → ClassId} {h : Hp} {D : va_G} {H H1 : Heap} (hP : va_P D vwCl (wd Λ ad cy h) H) (hk : ∀ p, p < Λ.2.2 → ad p < H.size → H1[ad p]? = H[ad p]?) : va_P D vwCl (wd Λ ad cy h) H1 := hP.kept (fun k q hq => by
  obtain ⟨h1, e1⟩ := wd_get hq
  have hlt := (hP k q hq).lt
  rw [e1] at hlt ⊢
  exact hk k h1 hlt)
theorem keep_out {cy : Nat → ClassId} {o : Nat} {f : Nat → Int64} {D : va_G} {H H1 : Heap} (hP : va_P D vwCl (outW cy o f) H) (hk : o < H.size → H1[o]? = H[o]?) : va_P D vwCl (outW cy o f) H1 := hP.kept (fun k q hq => by
  have hlt := (hP k q hq).lt
  rw [out_get hq] at hlt ⊢
  exact hk hlt)
theorem l_callC {y : MethodName} {CN : String} {bytes : ByteArray} {maxL n idx ci : Nat} {ret' : Option FieldType} {rm' : Room} {As stk : List Value} {post' : Option Value → Hp → Prop} (C : Cl x) (d : decode cL_law pc = .ok (.invokevirtual idx, 3)) (hml' : Cond.methodLink RL idx y ∈ wU) (Y : Yv y CN ci bytes maxL ret' n) (hcc : rm'.cells = 0 ∧ rm'.slots = 0) (hR : rm'.frames + 1 ≤ room_1.frames ∧ 8 + (maxL + 11) + rm'.locals ≤ room_1.locals) (hcs : cells ≤ room_1.cells ∧ slots ≤ room_1.slots) (hk : ci = 11) (hn : As.length = n) (hAs : ∀ ad, As.map (cV ad) = As) (hw : (st.map fun v => v.category).sum ≤ 8) (hs : stk = As.reverse ++ .ref (lxA x) :: st) (ok : Ok ΛC (lxl x) y bytes maxL ret' rm' (.ref 0 :: As) hc post') (hpo : ∀ r h' (ad : Nat → Nat), post' r h' → r.map (cV ad) = r) (k : ∀ r h', post' r h' → LG x (pc + 3) V (r.toList ++ st) h' hm f cells slots) : LG x pc V stk hc hm f cells slots := by
  subst hs; subst hk
  obtain ⟨p, l, e, s, m, below, meth, c, D, a, b, o, cy, bs, L, xs⟩ := x
  obtain ⟨hx, hb, hr, hml, hown, hts, hX, hbl, hlk, hK, hZ, ⟨ha, hbb, ho, ia, ib, ab, ao, bo⟩, hL, hfl⟩ := C
  intro H locs ls hP hQ hO hS hl
  refine l_run (Λ := ΛC) (ad := a) hx hb hml hown (wU_all hts) hK hZ ha ia d hml' Y hcc hR hcs (by decide) rfl hn (hAs a) hw ok hP hS hl.1 (fun r h' H1 locs1 hp' hP1 hkp hS1 => ?_)
  rw [hpo r h' a hp']
  exact k r h' hp' H1 locs1 ls hP1 (keep_wd hQ (fun q hq hlt => hkp _ hlt (fun p hp e => ab p q hp hq e.symm))) (keep_out hO (fun hlt => hkp _ hlt (fun p hp e => ao p hp e.symm))) hS1 hl
theorem l_callM {y : MethodName} {CN : String} {bytes : ByteArray} {maxL n idx ci : Nat} {ret' : Option FieldType} {rm' : Room} {As stk : List Value} {post' : Option Value → Hp → Prop} (C : Cl x) (d : decode cL_law pc = .ok (.invokevirtual idx, 3)) (hml' : Cond.methodLink RL idx y ∈ wU) (Y : Yv y CN ci bytes maxL ret' n) (hcc : rm'.cells = 0 ∧ rm'.slots = 0) (hR : rm'.frames + 1 ≤ room_1.frames ∧ 8 + (maxL + 11) + rm'.locals ≤ room_1.locals) (hcs : cells ≤ room_1.cells ∧ slots ≤ room_1.slots) (hk : ci = 12) (hn : As.length = n) (hAs : ∀ ad, As.map (cV ad) = As) (hw : (st.map fun v => v.category).sum ≤ 8) (hs : stk = As.reverse ++ .ref (lxB x) :: st) (ok : Ok ΛM (lxl x) y bytes maxL ret' rm' (.ref 0 :: As) hm post') (hpo : ∀ r h' (ad : Nat → Nat), post' r h' → r.map (cV ad) = r) (k : ∀ r h', post' r h' → LG x (pc + 3) V (r.toList ++ st) hc h' f cells slots) : LG x pc V stk hc hm f cells slots := by
  subst hs; subst hk
  obtain ⟨p, l, e, s, m, below, meth, c, D, a, b, o, cy, bs, L, xs⟩ := x
  obtain ⟨hx, hb, hr, hml, hown, hts, hX, hbl, hlk, hK, hZ, ⟨ha, hbb, ho, ia, ib, ab, ao, bo⟩, hL, hfl⟩ := C
  intro H locs ls hP hQ hO hS hl
  refine l_run (Λ := ΛM) (ad := b) hx hb hml hown (wU_all hts) hK hZ hbb ib d hml' Y hcc hR hcs (by decide) rfl hn (hAs b) hw ok hQ hS hl.1 (fun r h' H1 locs1 hp' hP1 hkp hS1 => ?_)
  rw [hpo r h' b hp']
  exact k r h' hp' H1 locs1 ls (keep_wd hP (fun q hq hlt => hkp _ hlt (fun p hp e => ab q p hq hp e))) hP1 (keep_out hO (fun hlt => hkp _ hlt (fun p hp e => bo p hp e.symm))) hS1 hl
end LCALL
theorem pw_int {K : Int32 × Hp → Prop} {r : Option Value} {h : Hp} (ad : Nat → Nat) (hp : PIw K r h) : r.map (cV ad) = r := by
  obtain ⟨v, rfl, -⟩ := hp
  rfl
theorem ps_int {K : Int32 → Prop} {h0 : Hp} {r : Option Value} {h : Hp} (ad : Nat → Nat) (hp : PIs K h0 r h) : r.map (cV ad) = r := by
  obtain ⟨v, rfl, -⟩ := hp
  rfl
theorem pw_long {K : Int64 × Hp → Prop} {r : Option Value} {h : Hp} (ad : Nat → Nat) (hp : PJw K r h) : r.map (cV ad) = r := by
  obtain ⟨v, rfl, -⟩ := hp
  rfl
