/-! The layer: a world of fixed cells, numbered; its contents are functions of the number of a cell and of a place. -/
def wU : List Cond := lw_tbl.filter goodWord
theorem wU_mem {w : Cond} (h : w ∈ lw_tbl) (hg : goodWord w = true) : w ∈ wU := List.mem_filter.mpr ⟨h, hg⟩
theorem wU_tbl : ∀ w ∈ wU, w ∈ lw_tbl := fun _ h => (List.mem_filter.mp h).1
theorem wU_good (c : Cond) : GoodIn (c :: wU) wU := fun _ h => ⟨List.mem_cons_of_mem _ h, good_of_word (List.mem_filter.mp h).2⟩
/-- ints, longs, and the references that may change, by the number of the cell and the place -/
abbrev Hp : Type := (Nat → Nat → Int32) × (Nat → Nat → Int64) × (Nat → Nat → Option Nat)
/-- the kind of each cell, its length, how many cells there are -/
abbrev Lay : Type := (Nat → Nat) × (Nat → Nat) × Nat
def up2 {α : Type} (f : Nat → Nat → α) (p k : Nat) (v : α) : Nat → Nat → α := fun q => if q = p then (fun j => if j = k then v else f q j) else f q
def wI (h : Hp) (p k : Nat) (v : Int32) : Hp := (up2 h.1 p k v, h.2.1, h.2.2)
def wJ (h : Hp) (p k : Nat) (v : Int64) : Hp := (h.1, up2 h.2.1 p k v, h.2.2)
def wR (h : Hp) (p k : Nat) (v : Option Nat) : Hp := (h.1, h.2.1, up2 h.2.2 p k v)
def wC (h : Hp) (p q sp dp n : Nat) : Hp := ((fun r => if r = q then va_cpy (h.1 p) (h.1 q) sp dp n else h.1 r), h.2.1, h.2.2)
def cV (ad : Nat → Nat) : Value → Value
  | .ref p => .ref (ad p)
  | v => v
theorem cV_cat (ad : Nat → Nat) (v : Value) : (cV ad v).category = v.category := by cases v <;> rfl
def cL (ad : Nat → Nat) (L : List (Nat × Value)) : List (Nat × Value) := L.map (fun q => (q.1, cV ad q.2))
theorem cL_filter (ad : Nat → Nat) (f : Nat → Nat → Bool) (L : List (Nat × Value)) : cL ad (L.filter (fun q => f q.1 q.2.category)) = (cL ad L).filter (fun q => f q.1 q.2.category) := by
  induction L with
  | nil => rfl
  | cons a L ih =>
    have e : cL ad (a :: L) = (a.1, cV ad a.2) :: cL ad L := rfl
    rw [e, List.filter_cons, List.filter_cons]
    by_cases hf : f a.1 a.2.category = true
    · rw [if_pos hf, if_pos (by rw [cV_cat]; exact hf), ← ih]; rfl
    · rw [if_neg hf, if_neg (by rw [cV_cat]; exact hf), ih]
theorem cL_get (ad : Nat → Nat) {L : List (Nat × Value)} {k i : Nat} {v : Value} (h : L[k]? = some (i, v)) : (cL ad L)[k]? = some (i, cV ad v) := by
  unfold cL
  rw [List.getElem?_map, h]
  rfl
theorem cL_args (ad : Nat → Nat) : ∀ (as : List Value) (i : Nat), cL ad (lv_args i as) = lv_args i (as.map (cV ad))
  | [], _ => rfl
  | v :: vs, i => by
    show (i, cV ad v) :: cL ad (lv_args _ vs) = (i, cV ad v) :: lv_args _ (vs.map (cV ad))
    rw [cL_args ad vs, cV_cat]
def tysU (cy : Nat → ClassId) : List (ClassId × FieldType) := [(cy 0, .byte), (cy 1, .int), (cy 2, .long), (cy 3, .boolean), (cy 4, .object "LaughDrum$Box")]
/-- a field's value: 0 an int, 1 a long, 2 a cell that stays (by its distance), 4 one by its number, else one that may change -/
def fval (Λ : Lay) (ad : Nat → Nat) (h : Hp) (p k : Nat) : Value := match tF (Λ.1 p) k with
  | 0 => .int (h.1 p k)
  | 1 => .long (h.2.1 p k)
  | 2 => .ref (ad (p + oF (Λ.1 p) k))
  | 4 => .ref (ad (oF (Λ.1 p) k))
  | _ => va_rf ((h.2.2 p k).map ad)
def ent (Λ : Lay) (ad : Nat → Nat) (cy : Nat → ClassId) (h : Hp) (p : Nat) : va_E :=
  if Λ.1 p < 13 then .inr (Λ.1 p, (List.range (nF (Λ.1 p))).map (fval Λ ad h p))
  else if Λ.1 p = 15 then .inl (cy 2, Λ.2.1 p, .inr (.inl (h.2.1 p)))
  else if Λ.1 p = 17 then .inl (cy 4, Λ.2.1 p, .inr (.inr (.inr (.inr (fun j => some (ad (p + 1 + 2 * j)))))))
  else .inl (cy (Λ.1 p - 13), Λ.2.1 p, .inl (h.1 p))
def wd (Λ : Lay) (ad : Nat → Nat) (cy : Nat → ClassId) (h : Hp) : va_W := (List.range Λ.2.2).map (fun p => (ad p, ent Λ ad cy h p))
theorem wd_at {Λ : Lay} {ad : Nat → Nat} {cy : Nat → ClassId} {h : Hp} {p : Nat} (hp : p < Λ.2.2) : (wd Λ ad cy h)[p]? = some (ad p, ent Λ ad cy h p) := by
  unfold wd
  rw [List.getElem?_map, List.getElem?_range hp]
  rfl
theorem wd_set {Λ : Lay} {ad : Nat → Nat} {cy : Nat → ClassId} {h h' : Hp} {p : Nat} {e : va_E} (he : ent Λ ad cy h' p = e) (ho : ∀ q, q ≠ p → ent Λ ad cy h' q = ent Λ ad cy h q) : (wd Λ ad cy h).set p (ad p, e) = wd Λ ad cy h' := by
  apply List.ext_getElem?
  intro i
  rw [List.getElem?_set]
  unfold wd
  rw [List.getElem?_map, List.getElem?_map, List.length_map, List.length_range]
  by_cases hi : i < Λ.2.2
  · rw [List.getElem?_range hi]
    by_cases hpi : p = i
    · subst hpi; simp [hi, he]
    · simp [hpi, ho i (fun q => hpi q.symm)]
  · have : (List.range Λ.2.2)[i]? = none := by rw [List.getElem?_eq_none_iff]; simpa using hi
    rw [this]
    by_cases hpi : p = i
    · subst hpi; simp [hi]
    · simp [hpi]
theorem up2_ne {α : Type} {f : Nat → Nat → α} {p k q : Nat} {v : α} (h : q ≠ p) : up2 f p k v q = f q := by unfold up2; rw [if_neg h]
theorem up2_eq {α : Type} {f : Nat → Nat → α} {p k : Nat} {v : α} : up2 f p k v p = fun j => if j = k then v else f p j := by unfold up2; rw [if_pos rfl]
theorem ent_o {Λ : Lay} {ad : Nat → Nat} {cy : Nat → ClassId} {h h' : Hp} {q : Nat} (h1 : h'.1 q = h.1 q) (h2 : h'.2.1 q = h.2.1 q) (h3 : h'.2.2 q = h.2.2 q) : ent Λ ad cy h' q = ent Λ ad cy h q := by
  have : fval Λ ad h' q = fval Λ ad h q := by funext k; unfold fval; rw [h1, h2, h3]
  unfold ent
  rw [this, h1, h2]
theorem range_map_set {α : Type} (n k : Nat) (f : Nat → α) (v : α) : ((List.range n).map f).set k v = (List.range n).map (fun j => if j = k then v else f j) := by
  apply List.ext_getElem?
  intro i
  rw [List.getElem?_set, List.getElem?_map, List.getElem?_map, List.length_map, List.length_range]
  by_cases hi : i < n
  · rw [List.getElem?_range hi]
    by_cases hk : k = i
    · subst hk; simp [hi]
    · have : ¬ i = k := fun q => hk q.symm
      simp [hk, this]
  · have : (List.range n)[i]? = none := by rw [List.getElem?_eq_none_iff]; simpa using hi
    rw [this]
    by_cases hk : k = i
    · subst hk; simp [hi]
    · simp [hk]
def langF (j : Nat) : Int32 := ([83623936, 687329536, 378994688, 257085056, 135708672, 642945024, 404455424, 777046016, 653969408, 109103520, 522190848, 48365568, 486146048, 654910919, 650632192, 546786304, 202788000, 676516096, 549512800, 844154880] : List Int32).getD j 0
/-- the table of words, outside A -/
def Zs (A : Nat → Prop) (U : State) (H : Heap) : Prop := ∃ t : Nat, va_Z "LaughDrum$Reader" "LANGUAGE" "[I" (.ref t) A U H ∧ va_T .int t 20 (fun j => .int (langF j)) A U H
theorem Zs.moved {A : Nat → Prop} {u U : State} {H : Heap} (hvm : u.vm.Alike U.vm) (h : Zs A u H) : Zs A U H := by
  obtain ⟨t, h1, h2⟩ := h
  exact ⟨t, h1.moved hvm, h2.moved hvm⟩
theorem Zs.kept {A : Nat → Prop} {U : State} {H H1 : Heap} (h : Zs A U H) (hq : ∀ a : Nat, a < H.size → ¬ A a → H1[a]? = H[a]?) : Zs A U H1 := by
  obtain ⟨t, h1, h2⟩ := h
  exact ⟨t, h1.kept hq, h2.kept hq⟩
theorem Zs.narrow {A B : Nat → Prop} {U : State} {H : Heap} (h : Zs A U H) (hAB : ∀ q, B q → A q) : Zs B U H := by
  obtain ⟨t, h1, h2⟩ := h
  exact ⟨t, h1.narrow hAB, h2.narrow hAB⟩
/-- the cells of the world, and what comes from sz on -/
def AA (Λ : Lay) (ad : Nat → Nat) (sz : Nat) : Nat → Prop := fun q => (∃ p, p < Λ.2.2 ∧ q = ad p) ∨ sz ≤ q
def Qx (Λ : Lay) (D : va_G) (ad : Nat → Nat) (cy : Nat → ClassId) (A : Nat → Prop) (post : Option Value → Hp → Prop) : Array Value → State → Outcome → State → Prop := fun _ st oc t =>
  (∃ (r : Option Value) (h : Hp), oc = .returned (r.map (cV ad)) ∧ post r h ∧ va_P D vwCl (wd Λ ad cy h) t.heap ∧ va_K D vwCl (tysU cy) t ∧ va_D A (wd Λ ad cy h)) ∧ va_F A st t
def Px (Λ : Lay) (D : va_G) (ad : Nat → Nat) (cy : Nat → ClassId) (sz : Nat) (h : Hp) (U : State) : Prop :=
  U.heap.size = sz ∧ va_P D vwCl (wd Λ ad cy h) U.heap ∧ va_K D vwCl (tysU cy) U ∧ va_D (AA Λ ad sz) (wd Λ ad cy h) ∧ Zs (AA Λ ad sz) U U.heap
/-- a contract: from these values and this world the method ends, and post holds of its answer and the world then -/
def Ok (Λ : Lay) (l : Launch) (y : MethodName) (cc : ByteArray) (maxL : Nat) (ret : Option FieldType) (rm : Room) (as : List Value) (h : Hp) (post : Option Value → Hp → Prop) : Prop :=
  ∀ (D : va_G) (ad : Nat → Nat) (cy : Nat → ClassId) (sz : Nat), Met l y (Cond.code y cc maxL ret :: wU) rm (va_Pc (as.map (cV ad)) (Px Λ D ad cy sz h)) (Qx Λ D ad cy (AA Λ ad sz) post) 0 0 (AA Λ ad sz)
abbrev Mx : Type := Program × Launch × Env × Room × State × MethodId × Array Value × List Frame × Method × Code × va_G × (Nat → Nat) × (Nat → ClassId) × (Nat → Prop) × Nat × (Option Value → Hp → Prop)
/-- the machine at pc, these locals, this stack, this world: it comes to the method's end as it should -/
def G (Λ : Lay) (x : Mx) (pc : Nat) (L : List (Nat × Value)) (st : List Value) (h : Hp) : Prop := match x with
  | (p, l, e, R, s, m, args, below, meth, c, D, ad, cy, A, nL, post) => ∀ (H : Heap) (locs : List Loc) (ls : Array Slot), va_P D vwCl (wd Λ ad cy h) H → va_D A (wd Λ ad cy h) → va_S A s.heap H locs → lv_has ls nL (cL ad L) →
      W p l e R s m args below meth c H locs 0 0 (MQ below (Qx Λ D ad cy A post) args s 0 0 A) (F0 m pc ls (st.map (cV ad)))
def Cx (Λ : Lay) (x : Mx) (l0 : Launch) (own : String) (cc : ByteArray) (rm : Room) (ret : Option FieldType) (nL0 : Nat) (post0 : Option Value → Hp → Prop) : Prop := match x with
  | (p, l, _, R, s, m, args, _, meth, c, D, ad, cy, A, nL, post) => p.tables.exec = Jvm.exec ∧ c.code = cc ∧ c.maxLocals = nL ∧ s.vm.findClass own = some m.cls ∧ (∀ w ∈ wU, w.before args s = true) ∧ va_K D vwCl (tysU cy) s ∧ meth.locks = false ∧ R = rm ∧ meth.sig.returnType = ret ∧ (∀ q, s.heap.size ≤ q → A q) ∧ (∀ p, p < Λ.2.2 → A (ad p)) ∧ Zs A s s.heap ∧ l = l0 ∧ nL = nL0 ∧ post = post0
theorem Ok.of {Λ : Lay} {l : Launch} {y : MethodName} {cc : ByteArray} {maxL : Nat} {ret : Option FieldType} {rm : Room} {as : List Value} {h : Hp} {post : Option Value → Hp → Prop} (own : String) (hown : y.cls = own) (hy : plainName y.cls = true) (hc : rm.cells = 0 ∧ rm.slots = 0) (hn : (lg_sl as).length ≤ maxL)
    (k : ∀ x : Mx, Cx Λ x l own cc rm ret maxL post → G Λ x 0 (lv_args 0 as) [] h) : Ok Λ l y cc maxL ret rm as h post := by
  intro D ad cy sz
  refine Met.ofW (cc := cc) (maxL := maxL) (ret := ret) hy rfl ?_
  intro p e s m args below meth c s₁ B hml hv
  obtain ⟨rfl, hsz, hP, hK, hD, hZ⟩ := hv
  have hts := atoms_spec (ws := Cond.code y cc maxL ret :: wU) B.pre
  have ho : s.vm.findClass own = some m.cls := by rw [← hown]; exact findClass_of_methodNamed B.named
  subst hsz
  have hle : (lg_sl (as.map (cV ad))).length ≤ maxL := by
    have : (lg_sl (as.map (cV ad))).length = (lg_sl as).length := by
      unfold lg_sl
      rw [List.length_flatMap, List.length_flatMap, List.map_map]
      congr 1
      apply List.map_congr_left
      intro v _
      show (if (cV ad v).category = 2 then [Slot.val (cV ad v), Slot.second] else [Slot.val (cV ad v)]).length = _
      rw [cV_cat]
      by_cases h2 : v.category = 2
      · rw [if_pos h2, if_pos h2]; rfl
      · rw [if_neg h2, if_neg h2]; rfl
    rw [this]; exact hn
  have hl := lv_entry (as.map (cV ad)) (n := maxL) hle
  rw [lg_entry_eq]
  have X := k (p, l, e, rm, s, m, (as.map (cV ad)).toArray, below, meth, c, D, ad, cy, AA Λ ad s.heap.size, maxL, post) ⟨B.exec, B.bytes, hml, ho, fun w hw => hts w (List.mem_cons_of_mem _ hw), hK, B.notSynchronized, rfl, B.returns, fun q hq => Or.inr hq, fun p hp => Or.inl ⟨p, hp, rfl⟩, hZ, rfl, rfl, rfl⟩
  exact X s.heap [] _ hP hD va_S.rf (by rw [cL_args]; exact hl)
