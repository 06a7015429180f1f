/-! The rules of fields, arrays, calls and ends. -/
section HEAP
variable {Λ : Lay} {x : Mx} {l0 : Launch} {own : String} {cc : ByteArray} {rm : Room} {ret : Option FieldType} {nL0 : Nat} {post0 : Option Value → Hp → Prop} {pc : Nat} {L : List (Nat × Value)} {st : List Value} {h : Hp}
/-- what the tables say of a field: the link at the index is slot k of class ci -/
def Fl (own : String) (index ci k : Nat) : Prop := ∃ (CN : String) (T : u_T), vwCl[ci]? = some (CN, T, nF ci) ∧ k < nF ci ∧ ci < 13 ∧ (∀ w ∈ u_ws CN T (nF ci), w ∈ wU) ∧ Cond.fieldLink own index (T k).1 (T k).2.1 (T k).2.2.1 ∈ wU
/-- .. and that it may be written, with a type -/
def Fp (own : String) (index ci k : Nat) (ty : FieldType) : Prop := ∃ (CN : String) (T : u_T) (ty0 : Nat → FieldType), vwCl[ci]? = some (CN, T, nF ci) ∧ k < nF ci ∧ ci < 13 ∧ (∀ w ∈ u_ws CN T (nF ci), w ∈ wU) ∧ Cond.fieldLink own index (T k).1 (T k).2.1 (T k).2.2.1 ∈ wU ∧ (∀ k, k < nF ci → parseFieldDescriptor (T k).2.2.1 = some (ty0 k)) ∧ (∀ a, a < nF ci → ∀ b, b < nF ci → a ≠ b → (T a).2.1 ≠ (T b).2.1) ∧ (T k).2.2.2 = false ∧ parseFieldDescriptor (T k).2.2.1 = some ty
theorem ent_obj {ad : Nat → Nat} {cy : Nat → ClassId} {p ci : Nat} (hk : Λ.1 p = ci) (hc : ci < 13) : ent Λ ad cy h p = .inr (ci, (List.range (nF ci)).map (fval Λ ad h p)) := by
  subst hk
  unfold ent
  rw [if_pos hc]
theorem ent_int {ad : Nat → Nat} {cy : Nat → ClassId} {p kk : Nat} (hk : Λ.1 p = kk) (hc : kk = 13 ∨ kk = 14 ∨ kk = 16) : ent Λ ad cy h p = .inl (cy (kk - 13), Λ.2.1 p, .inl (h.1 p)) := by
  subst hk
  unfold ent
  rw [if_neg (by omega), if_neg (by omega), if_neg (by omega)]
theorem ent_long {ad : Nat → Nat} {cy : Nat → ClassId} {p : Nat} (hk : Λ.1 p = 15) : ent Λ ad cy h p = .inl (cy 2, Λ.2.1 p, .inr (.inl (h.2.1 p))) := by
  unfold ent
  rw [if_neg (by omega), if_pos hk]
theorem ent_box {ad : Nat → Nat} {cy : Nat → ClassId} {p : Nat} (hk : Λ.1 p = 17) : ent Λ ad cy h p = .inl (cy 4, Λ.2.1 p, .inr (.inr (.inr (.inr (fun j => some (ad (p + 1 + 2 * j))))))) := by
  unfold ent
  rw [if_neg (by omega), if_neg (by omega), if_pos hk]
theorem g_get {index ci k p : Nat} {v : Value} (C : Cx Λ x l0 own cc rm ret nL0 post0) (d : decode cc pc = .ok (.getfield index, 3)) (hp : p < Λ.2.2) (hk : Λ.1 p = ci) (F : Fl own index ci k) (hv : ∀ ad, fval Λ ad h p k = cV ad v) (kk : G Λ x (pc + 3) L (v :: st) h) : G Λ x pc L (.ref p :: st) h := by
  obtain ⟨p', l, e, R, s, m, args, below, meth, c, D, ad, cy, A, nL, post⟩ := x
  obtain ⟨hx, hb, hml, hown, hts, hK, hlk, hR, hret, hA, hAp, hZ, hl0, hnL, hpost⟩ := C
  obtain ⟨CN, T, h1, h2, h3, h4, h5⟩ := F
  intro H locs ls hP hD hS hl
  refine va_get (ws := wd Λ ad cy h) (ref := (T k).1) (v := cV ad v) hx hb hts h4 hown hK hP p (fs := (List.range (nF ci)).map (fval Λ ad h p)) (by rw [wd_at hp, ent_obj hk h3]) h1 k h2 (hts _ h5) (fun _ q => q) ?_ d (kk H locs ls hP hD hS hl)
  rw [List.getElem?_map, List.getElem?_range h2, ← hv ad]
  rfl
theorem g_getI {index ci k p : Nat} (C : Cx Λ x l0 own cc rm ret nL0 post0) (d : decode cc pc = .ok (.getfield index, 3)) (hp : p < Λ.2.2) (hk : Λ.1 p = ci) (F : Fl own index ci k) (ht : tF ci k = 0) (kk : G Λ x (pc + 3) L (.int (h.1 p k) :: st) h) : G Λ x pc L (.ref p :: st) h :=
  g_get C d hp hk F (fun ad => by unfold fval; rw [hk, ht]; rfl) kk
theorem g_getJ {index ci k p : Nat} (C : Cx Λ x l0 own cc rm ret nL0 post0) (d : decode cc pc = .ok (.getfield index, 3)) (hp : p < Λ.2.2) (hk : Λ.1 p = ci) (F : Fl own index ci k) (ht : tF ci k = 1) (kk : G Λ x (pc + 3) L (.long (h.2.1 p k) :: st) h) : G Λ x pc L (.ref p :: st) h :=
  g_get C d hp hk F (fun ad => by unfold fval; rw [hk, ht]; rfl) kk
theorem g_getF {index ci k p q : Nat} (C : Cx Λ x l0 own cc rm ret nL0 post0) (d : decode cc pc = .ok (.getfield index, 3)) (hp : p < Λ.2.2) (hk : Λ.1 p = ci) (F : Fl own index ci k) (ht : tF ci k = 2) (hq : p + oF ci k = q) (kk : G Λ x (pc + 3) L (.ref q :: st) h) : G Λ x pc L (.ref p :: st) h :=
  g_get C d hp hk F (fun ad => by unfold fval; rw [hk, ht]; show Value.ref (ad (p + oF ci k)) = _; rw [hq]; rfl) kk
theorem g_getA {index ci k p q : Nat} (C : Cx Λ x l0 own cc rm ret nL0 post0) (d : decode cc pc = .ok (.getfield index, 3)) (hp : p < Λ.2.2) (hk : Λ.1 p = ci) (F : Fl own index ci k) (ht : tF ci k = 4) (hq : oF ci k = q) (kk : G Λ x (pc + 3) L (.ref q :: st) h) : G Λ x pc L (.ref p :: st) h :=
  g_get C d hp hk F (fun ad => by unfold fval; rw [hk, ht]; show Value.ref (ad (oF ci k)) = _; rw [hq]; rfl) kk
theorem g_getD {index ci k p q : Nat} (C : Cx Λ x l0 own cc rm ret nL0 post0) (d : decode cc pc = .ok (.getfield index, 3)) (hp : p < Λ.2.2) (hk : Λ.1 p = ci) (F : Fl own index ci k) (ht : tF ci k = 3) (hq : h.2.2 p k = some q) (kk : G Λ x (pc + 3) L (.ref q :: st) h) : G Λ x pc L (.ref p :: st) h :=
  g_get C d hp hk F (fun ad => by unfold fval; rw [hk, ht]; show va_rf ((h.2.2 p k).map ad) = _; rw [hq]; rfl) kk
theorem g_put {index ci k p : Nat} {ty : FieldType} {v : Value} {h' : Hp} (C : Cx Λ x l0 own cc rm ret nL0 post0) (d : decode cc pc = .ok (.putfield index, 3)) (hp : p < Λ.2.2) (hk : Λ.1 p = ci) (F : Fp own index ci k ty) (hn : ∀ ad, narrow ty (cV ad v) = cV ad v) (hf : ∀ ad, fits ty (cV ad v) = true) (he : ∀ ad j, fval Λ ad h' p j = if j = k then cV ad v else fval Λ ad h p j) (ho : ∀ q, q ≠ p → h'.1 q = h.1 q ∧ h'.2.1 q = h.2.1 q ∧ h'.2.2 q = h.2.2 q) (kk : G Λ x (pc + 3) L st h') : G Λ x pc L (v :: .ref p :: st) h := by
  obtain ⟨p', l, e, R, s, m, args, below, meth, c, D, ad, cy, A, nL, post⟩ := x
  obtain ⟨hx, hb, hml, hown, hts, hK, hlk, hR, hret, hA, hAp, hZ, hl0, hnL, hpost⟩ := C
  obtain ⟨CN, T, ty0, h1, h2, h3, h4, h5, h6, h7, h8, h9⟩ := F
  intro H locs ls hP hD hS hl
  have hset : (wd Λ ad cy h).set p (ad p, .inr (ci, ((List.range (nF ci)).map (fval Λ ad h p)).set k (cV ad v))) = wd Λ ad cy h' := by
    refine wd_set ?_ (fun q hq => ent_o (ho q hq).1 (ho q hq).2.1 (ho q hq).2.2)
    rw [ent_obj hk h3, range_map_set]
    congr 2
    apply List.map_congr_left
    intro j _
    exact he ad j
  refine va_put (ws := wd Λ ad cy h) (ref := (T k).1) (v := cV ad v) (ty := ty) hx hb hts h4 ty0 h6 h7 hown hK hP hD hS p (fs := (List.range (nF ci)).map (fval Λ ad h p)) (by rw [wd_at hp, ent_obj hk h3]) h1 k h2 (hts _ h5) (fun _ q => q) h8 h9 (hn ad) (hf ad) (by rw [List.length_map, List.length_range]; exact h2) d (fun H1 locs1 hP1 hD1 hS1 => ?_)
  rw [hset] at hP1 hD1
  exact kk H1 locs1 ls hP1 hD1 hS1 hl
theorem up2_s {α : Type} {f : Nat → Nat → α} {p k : Nat} {v : α} : up2 f p k v p k = v := by rw [up2_eq]; exact if_pos rfl
theorem up2_k {α : Type} {f : Nat → Nat → α} {p k j : Nat} {v : α} (h : ¬ j = k) : up2 f p k v p j = f p j := by rw [up2_eq]; exact if_neg h
theorem fval_I {ad : Nat → Nat} {p k ci : Nat} {v : Int32} (hk : Λ.1 p = ci) (ht : tF ci k = 0) (j : Nat) : fval Λ ad (wI h p k v) p j = if j = k then .int v else fval Λ ad h p j := by
  by_cases hj : j = k
  · subst hj
    rw [if_pos rfl]
    unfold fval
    rw [hk, ht]
    show Value.int (up2 h.1 p j v p j) = _
    rw [up2_s]
  · rw [if_neg hj]
    unfold fval
    show (match tF (Λ.1 p) j with | 0 => Value.int (up2 h.1 p k v p j) | 1 => _ | 2 => _ | 4 => _ | _ => _) = _
    rw [up2_k hj]; rfl
theorem fval_J {ad : Nat → Nat} {p k ci : Nat} {v : Int64} (hk : Λ.1 p = ci) (ht : tF ci k = 1) (j : Nat) : fval Λ ad (wJ h p k v) p j = if j = k then .long v else fval Λ ad h p j := by
  by_cases hj : j = k
  · subst hj
    rw [if_pos rfl]
    unfold fval
    rw [hk, ht]
    show Value.long (up2 h.2.1 p j v p j) = _
    rw [up2_s]
  · rw [if_neg hj]
    unfold fval
    show (match tF (Λ.1 p) j with | 0 => _ | 1 => Value.long (up2 h.2.1 p k v p j) | 2 => _ | 4 => _ | _ => _) = _
    rw [up2_k hj]; rfl
theorem fval_R {ad : Nat → Nat} {p k ci q : Nat} (hk : Λ.1 p = ci) (ht : tF ci k = 3) (j : Nat) : fval Λ ad (wR h p k (some q)) p j = if j = k then .ref (ad q) else fval Λ ad h p j := by
  by_cases hj : j = k
  · subst hj
    rw [if_pos rfl]
    unfold fval
    rw [hk, ht]
    show va_rf ((up2 h.2.2 p j (some q) p j).map ad) = _
    rw [up2_s]
    rfl
  · rw [if_neg hj]
    unfold fval
    show (match tF (Λ.1 p) j with | 0 => _ | 1 => _ | 2 => _ | 4 => _ | _ => va_rf ((up2 h.2.2 p k (some q) p j).map ad)) = _
    rw [up2_k hj]; rfl
theorem g_putI {index ci k p : Nat} {v : Int32} {h' : Hp} (C : Cx Λ x l0 own cc rm ret nL0 post0) (d : decode cc pc = .ok (.putfield index, 3)) (hp : p < Λ.2.2) (hk : Λ.1 p = ci) (F : Fp own index ci k .int) (ht : tF ci k = 0) (hh : h' = wI h p k v) (kk : G Λ x (pc + 3) L st h') : G Λ x pc L (.int v :: .ref p :: st) h := by
  subst hh
  exact g_put C d hp hk F (fun _ => rfl) (fun _ => rfl) (fun ad j => fval_I hk ht j) (fun q hq => ⟨up2_ne hq, rfl, rfl⟩) kk
theorem g_putZ {index ci k p : Nat} {v : Int32} {h' : Hp} (C : Cx Λ x l0 own cc rm ret nL0 post0) (d : decode cc pc = .ok (.putfield index, 3)) (hp : p < Λ.2.2) (hk : Λ.1 p = ci) (F : Fp own index ci k .boolean) (ht : tF ci k = 0) (hv : v = 0 ∨ v = 1) (hh : h' = wI h p k v) (kk : G Λ x (pc + 3) L st h') : G Λ x pc L (.int v :: .ref p :: st) h := by
  subst hh
  exact g_put C d hp hk F (fun _ => by rcases hv with rfl | rfl <;> rfl) (fun _ => by rcases hv with rfl | rfl <;> rfl) (fun ad j => fval_I hk ht j) (fun q hq => ⟨up2_ne hq, rfl, rfl⟩) kk
theorem g_putJ {index ci k p : Nat} {v : Int64} {h' : Hp} (C : Cx Λ x l0 own cc rm ret nL0 post0) (d : decode cc pc = .ok (.putfield index, 3)) (hp : p < Λ.2.2) (hk : Λ.1 p = ci) (F : Fp own index ci k .long) (ht : tF ci k = 1) (hh : h' = wJ h p k v) (kk : G Λ x (pc + 3) L st h') : G Λ x pc L (.long v :: .ref p :: st) h := by
  subst hh
  exact g_put C d hp hk F (fun _ => rfl) (fun _ => rfl) (fun ad j => fval_J hk ht j) (fun q hq => ⟨rfl, up2_ne hq, rfl⟩) kk
theorem g_putR {index ci k p q : Nat} {cn : String} {h' : Hp} (C : Cx Λ x l0 own cc rm ret nL0 post0) (d : decode cc pc = .ok (.putfield index, 3)) (hp : p < Λ.2.2) (hk : Λ.1 p = ci) (F : Fp own index ci k (.object cn)) (ht : tF ci k = 3) (hh : h' = wR h p k (some q)) (kk : G Λ x (pc + 3) L st h') : G Λ x pc L (.ref q :: .ref p :: st) h := by
  subst hh
  exact g_put C d hp hk F (fun _ => rfl) (fun _ => rfl) (fun ad j => fval_R hk ht j) (fun r hq => ⟨rfl, rfl, up2_ne hq⟩) kk
def inb (i : Int32) (n : Nat) : Bool := decide (0 ≤ i) && decide (i.toNatClampNeg < n)
abbrev ix (i : Int32) : Nat := i.toNatClampNeg
theorem inb_in {i : Int32} {n : Nat} (h : inb i n = true) : vp_in i n := by
  unfold inb at h
  rw [Bool.and_eq_true, decide_eq_true_eq, decide_eq_true_eq] at h
  intro q
  rcases q with q | q
  · exact absurd h.1 (Int32.not_le.mpr q)
  · omega
theorem g_iald {p : Nat} {i : Int32} (C : Cx Λ x l0 own cc rm ret nL0 post0) (d : decode cc pc = .ok (.iaload, 1)) (hp : p < Λ.2.2) (hk : Λ.1 p = 14) (hi : inb i (Λ.2.1 p) = true) (kk : G Λ x (pc + 1) L (.int (h.1 p (ix i)) :: st) h) : G Λ x pc L (.int i :: .ref p :: st) h := by
  obtain ⟨p', l, e, R, s, m, args, below, meth, c, D, ad, cy, A, nL, post⟩ := x
  obtain ⟨hx, hb, hml, hown, hts, hK, hlk, hR, hret, hA, hAp, hZ, hl0, hnL, hpost⟩ := C
  intro H locs ls hP hD hS hl
  exact va_iald (ws := wd Λ ad cy h) hx hb hK hP p 1 (cA := cy 1) (n := Λ.2.1 p) (f := h.1 p) (by rw [wd_at hp, ent_int hk (by omega)]) rfl (inb_in hi) d (kk H locs ls hP hD hS hl)
theorem g_bald {p : Nat} {i : Int32} (C : Cx Λ x l0 own cc rm ret nL0 post0) (d : decode cc pc = .ok (.baload, 1)) (hp : p < Λ.2.2) (hk : Λ.1 p = 13) (hi : inb i (Λ.2.1 p) = true) (kk : G Λ x (pc + 1) L (.int (h.1 p (ix i)) :: st) h) : G Λ x pc L (.int i :: .ref p :: st) h := by
  obtain ⟨p', l, e, R, s, m, args, below, meth, c, D, ad, cy, A, nL, post⟩ := x
  obtain ⟨hx, hb, hml, hown, hts, hK, hlk, hR, hret, hA, hAp, hZ, hl0, hnL, hpost⟩ := C
  intro H locs ls hP hD hS hl
  exact va_bald (ws := wd Λ ad cy h) hx hb hK hP p 0 (cA := cy 0) (n := Λ.2.1 p) (f := h.1 p) (by rw [wd_at hp, ent_int hk (by omega)]) rfl (inb_in hi) d (kk H locs ls hP hD hS hl)
theorem g_zald {p : Nat} {i : Int32} (C : Cx Λ x l0 own cc rm ret nL0 post0) (d : decode cc pc = .ok (.baload, 1)) (hp : p < Λ.2.2) (hk : Λ.1 p = 16) (hi : inb i (Λ.2.1 p) = true) (kk : G Λ x (pc + 1) L (.int (h.1 p (ix i)) :: st) h) : G Λ x pc L (.int i :: .ref p :: st) h := by
  obtain ⟨p', l, e, R, s, m, args, below, meth, c, D, ad, cy, A, nL, post⟩ := x
  obtain ⟨hx, hb, hml, hown, hts, hK, hlk, hR, hret, hA, hAp, hZ, hl0, hnL, hpost⟩ := C
  intro H locs ls hP hD hS hl
  exact va_zald (ws := wd Λ ad cy h) hx hb hK hP p 3 (cA := cy 3) (n := Λ.2.1 p) (f := h.1 p) (by rw [wd_at hp, ent_int hk (by omega)]) rfl (inb_in hi) d (kk H locs ls hP hD hS hl)
theorem g_lald {p : Nat} {i : Int32} (C : Cx Λ x l0 own cc rm ret nL0 post0) (d : decode cc pc = .ok (.laload, 1)) (hp : p < Λ.2.2) (hk : Λ.1 p = 15) (hi : inb i (Λ.2.1 p) = true) (kk : G Λ x (pc + 1) L (.long (h.2.1 p (ix i)) :: st) h) : G Λ x pc L (.int i :: .ref p :: st) h := by
  obtain ⟨p', l, e, R, s, m, args, below, meth, c, D, ad, cy, A, nL, post⟩ := x
  obtain ⟨hx, hb, hml, hown, hts, hK, hlk, hR, hret, hA, hAp, hZ, hl0, hnL, hpost⟩ := C
  intro H locs ls hP hD hS hl
  exact va_lald (ws := wd Λ ad cy h) hx hb hK hP p 2 (cA := cy 2) (n := Λ.2.1 p) (f := h.2.1 p) (by rw [wd_at hp, ent_long hk]) rfl (inb_in hi) d (kk H locs ls hP hD hS hl)
theorem g_aald {p q : Nat} {i : Int32} (C : Cx Λ x l0 own cc rm ret nL0 post0) (d : decode cc pc = .ok (.aaload, 1)) (hp : p < Λ.2.2) (hk : Λ.1 p = 17) (hi : inb i (Λ.2.1 p) = true) (hq : p + 1 + 2 * ix i = q) (kk : G Λ x (pc + 1) L (.ref q :: st) h) : G Λ x pc L (.int i :: .ref p :: st) h := by
  subst hq
  obtain ⟨p', l, e, R, s, m, args, below, meth, c, D, ad, cy, A, nL, post⟩ := x
  obtain ⟨hx, hb, hml, hown, hts, hK, hlk, hR, hret, hA, hAp, hZ, hl0, hnL, hpost⟩ := C
  intro H locs ls hP hD hS hl
  exact va_aldq (ws := wd Λ ad cy h) hx hb hK hP p 4 (cA := cy 4) (C := "LaughDrum$Box") (n := Λ.2.1 p) (f := fun j => some (ad (p + 1 + 2 * j))) (by rw [wd_at hp, ent_box hk]) rfl (inb_in hi) d (kk H locs ls hP hD hS hl)
theorem g_alen {p kk0 : Nat} {v : Int32} (C : Cx Λ x l0 own cc rm ret nL0 post0) (d : decode cc pc = .ok (.arraylength, 1)) (hp : p < Λ.2.2) (hk : Λ.1 p = kk0) (hc : kk0 = 13 ∨ kk0 = 14 ∨ kk0 = 16) (hv : Int32.ofNat (Λ.2.1 p) = v) (kk : G Λ x (pc + 1) L (.int v :: st) h) : G Λ x pc L (.ref p :: st) h := by
  obtain ⟨p', l, e, R, s, m, args, below, meth, c, D, ad, cy, A, nL, post⟩ := x
  obtain ⟨hx, hb, hml, hown, hts, hK, hlk, hR, hret, hA, hAp, hZ, hl0, hnL, hpost⟩ := C
  intro H locs ls hP hD hS hl
  have he : (wd Λ ad cy h)[p]? = some (ad p, .inl (cy (kk0 - 13), Λ.2.1 p, .inl (h.1 p))) := by rw [wd_at hp, ent_int hk hc]
  rcases hc with rfl | rfl | rfl
  · exact va_alen (ws := wd Λ ad cy h) hx hb hK hP p 0 he (ty := .byte) rfl hv d (kk H locs ls hP hD hS hl)
  · exact va_alen (ws := wd Λ ad cy h) hx hb hK hP p 1 he (ty := .int) rfl hv d (kk H locs ls hP hD hS hl)
  · exact va_alen (ws := wd Λ ad cy h) hx hb hK hP p 3 he (ty := .boolean) rfl hv d (kk H locs ls hP hD hS hl)
theorem wd_setI {ad : Nat → Nat} {cy : Nat → ClassId} {p kk0 k : Nat} {v : Int32} (hk : Λ.1 p = kk0) (hc : kk0 = 13 ∨ kk0 = 14 ∨ kk0 = 16) : (wd Λ ad cy h).set p (ad p, .inl (cy (kk0 - 13), Λ.2.1 p, .inl (upd (h.1 p) k v))) = wd Λ ad cy (wI h p k v) := by
  refine wd_set ?_ (fun q hq => ent_o (up2_ne hq) rfl rfl)
  rw [ent_int hk hc]
  show Sum.inl (cy (kk0 - 13), Λ.2.1 p, Sum.inl (up2 h.1 p k v p)) = _
  rw [up2_eq]
  rfl
theorem g_iast {p : Nat} {i v : Int32} {h' : Hp} (C : Cx Λ x l0 own cc rm ret nL0 post0) (d : decode cc pc = .ok (.iastore, 1)) (hp : p < Λ.2.2) (hk : Λ.1 p = 14) (hi : inb i (Λ.2.1 p) = true) (hh : h' = wI h p (ix i) v) (kk : G Λ x (pc + 1) L st h') : G Λ x pc L (.int v :: .int i :: .ref p :: st) h := by
  subst hh
  obtain ⟨p', l, e, R, s, m, args, below, meth, c, D, ad, cy, A, nL, post⟩ := x
  obtain ⟨hx, hb, hml, hown, hts, hK, hlk, hR, hret, hA, hAp, hZ, hl0, hnL, hpost⟩ := C
  intro H locs ls hP hD hS hl
  refine va_iast (ws := wd Λ ad cy h) hx hb hK hP hD hS p 1 (cA := cy 1) (n := Λ.2.1 p) (f := h.1 p) (by rw [wd_at hp, ent_int hk (by omega)]) rfl (inb_in hi) d (fun H1 locs1 hP1 hD1 hS1 => ?_)
  have e1 := wd_setI (h := h) (ad := ad) (cy := cy) (k := ix i) (v := v) hk (Or.inr (Or.inl rfl))
  have hP2 : va_P D vwCl (wd Λ ad cy (wI h p (ix i) v)) H1 := by rw [← e1]; exact hP1
  have hD2 : va_D A (wd Λ ad cy (wI h p (ix i) v)) := by rw [← e1]; exact hD1
  exact kk H1 locs1 ls hP2 hD2 hS1 hl
theorem g_bast {p : Nat} {i v : Int32} {h' : Hp} (C : Cx Λ x l0 own cc rm ret nL0 post0) (d : decode cc pc = .ok (.bastore, 1)) (hp : p < Λ.2.2) (hk : Λ.1 p = 13) (hi : inb i (Λ.2.1 p) = true) (hh : h' = wI h p (ix i) v.toInt8.toInt32) (kk : G Λ x (pc + 1) L st h') : G Λ x pc L (.int v :: .int i :: .ref p :: st) h := by
  subst hh
  obtain ⟨p', l, e, R, s, m, args, below, meth, c, D, ad, cy, A, nL, post⟩ := x
  obtain ⟨hx, hb, hml, hown, hts, hK, hlk, hR, hret, hA, hAp, hZ, hl0, hnL, hpost⟩ := C
  intro H locs ls hP hD hS hl
  refine va_bast (ws := wd Λ ad cy h) hx hb hK hP hD hS p 0 (cA := cy 0) (n := Λ.2.1 p) (f := h.1 p) (by rw [wd_at hp, ent_int hk (by omega)]) rfl (inb_in hi) d (fun H1 locs1 hP1 hD1 hS1 => ?_)
  rw [vp_nar_byte] at hP1 hD1
  have e1 := wd_setI (h := h) (ad := ad) (cy := cy) (k := ix i) (v := v.toInt8.toInt32) hk (Or.inl rfl)
  have hP2 : va_P D vwCl (wd Λ ad cy (wI h p (ix i) v.toInt8.toInt32)) H1 := by rw [← e1]; exact hP1
  have hD2 : va_D A (wd Λ ad cy (wI h p (ix i) v.toInt8.toInt32)) := by rw [← e1]; exact hD1
  exact kk H1 locs1 ls hP2 hD2 hS1 hl
theorem g_zast {p : Nat} {i v : Int32} {h' : Hp} (C : Cx Λ x l0 own cc rm ret nL0 post0) (d : decode cc pc = .ok (.bastore, 1)) (hp : p < Λ.2.2) (hk : Λ.1 p = 16) (hi : inb i (Λ.2.1 p) = true) (hv : v = 0 ∨ v = 1) (hh : h' = wI h p (ix i) v) (kk : G Λ x (pc + 1) L st h') : G Λ x pc L (.int v :: .int i :: .ref p :: st) h := by
  subst hh
  obtain ⟨p', l, e, R, s, m, args, below, meth, c, D, ad, cy, A, nL, post⟩ := x
  obtain ⟨hx, hb, hml, hown, hts, hK, hlk, hR, hret, hA, hAp, hZ, hl0, hnL, hpost⟩ := C
  intro H locs ls hP hD hS hl
  have hz : vp_nar .boolean v = v := by rcases hv with rfl | rfl <;> rfl
  refine va_zast (ws := wd Λ ad cy h) hx hb hK hP hD hS p 3 (cA := cy 3) (n := Λ.2.1 p) (f := h.1 p) (by rw [wd_at hp, ent_int hk (by omega)]) rfl (inb_in hi) d (fun H1 locs1 hP1 hD1 hS1 => ?_)
  rw [hz] at hP1 hD1
  have e1 := wd_setI (h := h) (ad := ad) (cy := cy) (k := ix i) (v := v) hk (Or.inr (Or.inr rfl))
  have hP2 : va_P D vwCl (wd Λ ad cy (wI h p (ix i) v)) H1 := by rw [← e1]; exact hP1
  have hD2 : va_D A (wd Λ ad cy (wI h p (ix i) v)) := by rw [← e1]; exact hD1
  exact kk H1 locs1 ls hP2 hD2 hS1 hl
theorem g_last {p : Nat} {i : Int32} {v : Int64} {h' : Hp} (C : Cx Λ x l0 own cc rm ret nL0 post0) (d : decode cc pc = .ok (.lastore, 1)) (hp : p < Λ.2.2) (hk : Λ.1 p = 15) (hi : inb i (Λ.2.1 p) = true) (hh : h' = wJ h p (ix i) v) (kk : G Λ x (pc + 1) L st h') : G Λ x pc L (.long v :: .int i :: .ref p :: st) h := by
  subst hh
  obtain ⟨p', l, e, R, s, m, args, below, meth, c, D, ad, cy, A, nL, post⟩ := x
  obtain ⟨hx, hb, hml, hown, hts, hK, hlk, hR, hret, hA, hAp, hZ, hl0, hnL, hpost⟩ := C
  intro H locs ls hP hD hS hl
  refine va_last (ws := wd Λ ad cy h) hx hb hK hP hD hS p 2 (cA := cy 2) (n := Λ.2.1 p) (f := h.2.1 p) (by rw [wd_at hp, ent_long hk]) rfl (inb_in hi) d (fun H1 locs1 hP1 hD1 hS1 => ?_)
  have e1 : (wd Λ ad cy h).set p (ad p, .inl (cy 2, Λ.2.1 p, .inr (.inl (vp_updL (h.2.1 p) (ix i) v)))) = wd Λ ad cy (wJ h p (ix i) v) := by
    refine wd_set ?_ (fun q hq => ent_o rfl (up2_ne hq) rfl)
    rw [ent_long hk]
    show Sum.inl (cy 2, Λ.2.1 p, Sum.inr (Sum.inl (up2 h.2.1 p (ix i) v p))) = _
    rw [up2_eq]
    rfl
  have hP2 : va_P D vwCl (wd Λ ad cy (wJ h p (ix i) v)) H1 := by rw [← e1]; exact hP1
  have hD2 : va_D A (wd Λ ad cy (wJ h p (ix i) v)) := by rw [← e1]; exact hD1
  exact kk H1 locs1 ls hP2 hD2 hS1 hl
end HEAP
