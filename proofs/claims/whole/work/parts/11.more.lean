/-! More rules; the two worlds; ends of contracts. -/
abbrev ΛC : Lay := (kdC, lnC, 101)
abbrev ΛM : Lay := (kdM, lnM, 39)
section MORE
variable {Λ : Lay} {x : Mx} {l0 : Launch} {own : String} {cc : ByteArray} {rm : Room} {ret : Option FieldType} {nL0 : Nat} {post0 : Option Value → Hp → Prop} {pc : Nat} {L : List (Nat × Value)} {st : List Value} {h : Hp}
theorem cL_pick (ad : Nat → Nat) (L : List (Nat × Value)) : ∀ ks : List Nat, lv_pick (cL ad L) ks = cL ad (lv_pick L ks)
  | [] => rfl
  | k :: ks => by
    have ih := cL_pick ad L ks
    unfold lv_pick cL at ih ⊢
    rw [List.filterMap_cons, List.filterMap_cons, List.getElem?_map]
    cases L[k]? with
    | none => exact ih
    | some q => simp only [Option.map_some, List.map_cons, ih]
theorem g_sub {L' : List (Nat × Value)} (ks : List Nat) (hL : lv_pick L ks = L') (k : G Λ x pc L' st h) : G Λ x pc L st h := by
  obtain ⟨p, l, e, R, s, m, args, below, meth, c, D, ad, cy, A, nL, post⟩ := x
  intro H locs ls hP hD hS hl
  exact k H locs ls hP hD hS (lv_sub hl ks (by rw [cL_pick, hL]))
theorem g_nameI {v a : Int32} (e : v = a) (k : G Λ x pc L (.int v :: st) h) : G Λ x pc L (.int a :: st) h := by subst e; exact k
theorem g_nameJ {v a : Int64} (e : v = a) (k : G Λ x pc L (.long v :: st) h) : G Λ x pc L (.long a :: st) h := by subst e; exact k
theorem g_nameR {v a : Nat} (e : v = a) (k : G Λ x pc L (.ref v :: st) h) : G Λ x pc L (.ref a :: st) h := by subst e; exact k
theorem g_ldcw {index : Nat} {v : Int32} (C : Cx Λ x l0 own cc rm ret nL0 post0) (d : decode cc pc = .ok (.ldc_w index, 3)) (hw : Cond.constant own index v ∈ wU) (k : G Λ x (pc + 3) L (.int v :: st) h) : G Λ x pc L st h := by
  obtain ⟨p, l, e, R, s, m, args, below, meth, c, D, ad, cy, A, nL, post⟩ := x
  obtain ⟨hx, hb, hml, hown, hts, hK, hlk, hR, hret, hA, hAp, hZ, hl0, hnL, hpost⟩ := C
  intro H locs ls hP hD hS hl
  exact lv_ldcw hx hb hown (hts _ hw) d (k H locs ls hP hD hS hl)
theorem nz_of {α : Type} {a b : α} {dc : Decidable (a = b)} (h : (!@decide (a = b) dc) = true) : ¬ a = b := by
  intro e
  rw [decide_eq_true e] at h
  cases h
theorem inb_of {i : Int32} {p n : Nat} (hn : Λ.2.1 p = n) (h : inb i n = true) : inb i (Λ.2.1 p) = true := by rw [hn]; exact h
end MORE
theorem ne32 {a b : Int32} (h : ¬ a = b) : ¬ a.toInt = b.toInt := fun e => h (Int32.toInt_inj.mp e)
theorem lk_ne {a b : Int32} {n : Int} (h : ¬ a = b) (hn : b.toInt = n) : ¬ n = a.toInt := fun e => h (Int32.toInt_inj.mp (by rw [hn, e]))
theorem getD_lt {l : List Nat} {p k d : Nat} (h : l.getD p d = k) (hk : Nat.blt k d = true) : p < l.length := by
  rcases Nat.lt_or_ge p l.length with q | q
  · exact q
  · rw [List.getD_eq_getElem?_getD, List.getElem?_eq_none q] at h
    have h : d = k := h
    subst h
    have := Nat.le_of_ble_eq_true hk
    omega
theorem hpC {p k : Nat} (h : kdC p = k) (hk : Nat.blt k 99 = true) : p < ΛC.2.2 := getD_lt (l := kdCl) h hk
theorem hpM {p k : Nat} (h : kdM p = k) (hk : Nat.blt k 99 = true) : p < ΛM.2.2 := getD_lt (l := kdMl) h hk
def PIw (K : Int32 × Hp → Prop) : Option Value → Hp → Prop := fun r h' => ∃ v, r = some (.int v) ∧ K (v, h')
def PIr (K : Int32 → Prop) (h : Hp) : Option Value → Hp → Prop := fun r h' => ∃ v, r = some (.int v) ∧ h' = h ∧ K v
def PJw (K : Int64 × Hp → Prop) : Option Value → Hp → Prop := fun r h' => ∃ v, r = some (.long v) ∧ K (v, h')
def PJr (K : Int64 → Prop) (h : Hp) : Option Value → Hp → Prop := fun r h' => ∃ v, r = some (.long v) ∧ h' = h ∧ K v
def PVw (K : Hp → Prop) : Option Value → Hp → Prop := fun r h' => r = none ∧ K h'
theorem kbox_all : ∀ a, a < 101 → kdC a = 17 → ∀ j, j < 6 → kdC (a + 1 + 2 * j) = 0 := by decide +kernel
theorem kboxC {a : Nat} {i : Int32} (h : kdC a = 17) (hi : inb i 6 = true) : kdC (a + 1 + 2 * ix i) = 0 := by
  unfold inb at hi
  rw [Bool.and_eq_true, decide_eq_true_eq, decide_eq_true_eq] at hi
  exact kbox_all a (hpC h rfl) h (ix i) hi.2
