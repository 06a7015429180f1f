/-! A layer for the law: two worlds, the row 'out', the script. -/
abbrev Lx : Type := Program × Launch × Env × State × MethodId × List Frame × Method × Code × va_G × (Nat → Nat) × (Nat → Nat) × Nat × (Nat → ClassId) × Nat × Nat × (Nat → Int32)
def outW (cy : Nat → ClassId) (o : Nat) (f : Nat → Int64) : va_W := [(o, .inl (cy 2, 1, .inr (.inl f)))]
def LA (s : State) : Nat → Prop := fun q => s.heap.size ≤ q
def LG (x : Lx) (pc : Nat) (V : List (Nat × Value)) (st : List Value) (hc hm : Hp) (f : Nat → Int64) (cells slots : Nat) : Prop := match x with
  | (p, l, e, s, m, below, meth, c, D, a, b, o, cy, bs, _, _) => ∀ (H : Heap) (locs : List Loc) (ls : Array Slot), va_P D vwCl (wd ΛC a cy hc) H → va_P D vwCl (wd ΛM b cy hm) H → va_P D vwCl (outW cy o f) H → va_S (LA s) s.heap H locs → lv_has ls 7 V → W p l e room_1 s m #[Value.ref bs] below meth c H locs cells slots (lw_Z below #[Value.ref bs] s) (F0 m pc ls st)
/-- the cells are apart -/
def Lap (s : State) (a b : Nat → Nat) (o : Nat) : Prop := (∀ p, p < 101 → s.heap.size ≤ a p) ∧ (∀ p, p < 39 → s.heap.size ≤ b p) ∧ s.heap.size ≤ o ∧ (∀ p q, p < 101 → q < 101 → a p = a q → p = q) ∧ (∀ p q, p < 39 → q < 39 → b p = b q → p = q) ∧ (∀ p q, p < 101 → q < 39 → a p ≠ b q) ∧ (∀ p, p < 101 → a p ≠ o) ∧ ∀ p, p < 39 → b p ≠ o
def Cl (x : Lx) : Prop := match x with
  | (p, l, _, s, m, _, meth, c, D, a, b, o, cy, bs, L, xs) => p.tables.exec = Jvm.exec ∧ c.code = cL_law ∧ meth.sig.returnType = ret ∧ c.maxLocals = 7 ∧ s.vm.findClass RL = some m.cls ∧ (∀ w ∈ lw_tbl, w.before #[Value.ref bs] s = true) ∧ va_X bs L xs s s.heap ∧ bs < s.heap.size ∧ meth.locks = false ∧ va_K D vwCl (tysU cy) s ∧ Zs (LA s) s s.heap ∧ Lap s a b o ∧ L ≤ 3072 ∧ l.flags = flags0
def lxA (x : Lx) : Nat := match x with | (_, _, _, _, _, _, _, _, _, a, _, _, _, _, _, _) => a 0
def lxB (x : Lx) : Nat := match x with | (_, _, _, _, _, _, _, _, _, _, b, _, _, _, _, _) => b 0
def lxO (x : Lx) : Nat := match x with | (_, _, _, _, _, _, _, _, _, _, _, o, _, _, _, _) => o
def lxS (x : Lx) : Nat := match x with | (_, _, _, _, _, _, _, _, _, _, _, _, _, bs, _, _) => bs
def lxL (x : Lx) : Nat := match x with | (_, _, _, _, _, _, _, _, _, _, _, _, _, _, L, _) => L
def lxX (x : Lx) : Nat → Int32 := match x with | (_, _, _, _, _, _, _, _, _, _, _, _, _, _, _, xs) => xs
def lxl (x : Lx) : Launch := match x with | (_, l, _, _, _, _, _, _, _, _, _, _, _, _, _, _) => l
/-- the law's locals in its loop -/
def Vs (x : Lx) (i : Nat) : List (Nat × Value) := [(4, .int (nI i)), (3, .ref (lxO x)), (2, .ref (lxB x)), (1, .ref (lxA x)), (0, .ref (lxS x))]
theorem wd_get {Λ : Lay} {ad : Nat → Nat} {cy : Nat → ClassId} {h : Hp} {k : Nat} {q : Nat × va_E} (hk : (wd Λ ad cy h)[k]? = some q) : k < Λ.2.2 ∧ q = (ad k, ent Λ ad cy h k) := by
  have hl : k < (wd Λ ad cy h).length := (List.getElem?_eq_some_iff.mp hk).1
  have hl' : k < Λ.2.2 := by
    unfold wd at hl
    rw [List.length_map, List.length_range] at hl
    exact hl
  refine ⟨hl', ?_⟩
  rw [wd_at hl'] at hk
  exact (Option.some.inj hk).symm
theorem wd_D {Λ : Lay} {ad : Nat → Nat} {cy : Nat → ClassId} {h : Hp} {A : Nat → Prop} (hi : ∀ p q, p < Λ.2.2 → q < Λ.2.2 → ad p = ad q → p = q) (hA : ∀ p, p < Λ.2.2 → A (ad p)) : va_D A (wd Λ ad cy h) := by
  refine ⟨fun i j u v hu hv huv => ?_, fun k q hk => ?_⟩
  · obtain ⟨h1, e1⟩ := wd_get hu
    obtain ⟨h2, e2⟩ := wd_get hv
    rw [e1, e2] at huv
    exact hi i j h1 h2 huv
  · obtain ⟨h1, e1⟩ := wd_get hk
    rw [e1]
    exact hA k h1
theorem out_get {cy : Nat → ClassId} {o : Nat} {f : Nat → Int64} {k : Nat} {q : Nat × va_E} (hk : (outW cy o f)[k]? = some q) : q.1 = o := by
  have : k = 0 := by
    have := (List.getElem?_eq_some_iff.mp hk).1
    simp [outW] at this; exact this
  subst this
  cases hk
  rfl
section LRULES
variable {x : Lx} {pc : Nat} {V : List (Nat × Value)} {st : List Value} {hc hm : Hp} {f : Nat → Int64} {cells slots i : Nat}
theorem l_iconst {n : Int} {v : Int32} (C : Cl x) (d : decode cL_law pc = .ok (.iconst n, 1)) (hv : Int32.ofInt n = v) (k : LG x (pc + 1) V (.int v :: st) hc hm f cells slots) : LG x pc V st hc hm f cells slots := by
  obtain ⟨p, l, e, s, m, below, meth, c, D, a, b, o, cy, bs, L, xs⟩ := x
  obtain ⟨hx, hb, hr, hml, hown, hts, hX, hbl, hlk, hK, hZ, hap, hL, hfl⟩ := C
  intro H locs ls hP hQ hO hS hl
  exact lv_iconst hx hb d hv (k H locs ls hP hQ hO hS hl)
theorem l_aload {j : Fin 4} {q i0 v : Nat} (C : Cl x) (d : decode cL_law pc = .ok (.aload_n j, 1)) (hi : (j : Nat) = i0) (hq : V[q]? = some (i0, .ref v)) (k : LG x (pc + 1) V (.ref v :: st) hc hm f cells slots) : LG x pc V st hc hm f cells slots := by
  obtain ⟨p, l, e, s, m, below, meth, c, D, a, b, o, cy, bs, L, xs⟩ := x
  obtain ⟨hx, hb, hr, hml, hown, hts, hX, hbl, hlk, hK, hZ, hap, hL, hfl⟩ := C
  intro H locs ls hP hQ hO hS hl
  exact lv_aload_n hx hb d hi (lv_at hl q hq) (k H locs ls hP hQ hO hS hl)
theorem l_iload {q i0 : Nat} {v : Int32} (C : Cl x) (d : decode cL_law pc = .ok (.iload i0, 2)) (hq : V[q]? = some (i0, .int v)) (k : LG x (pc + 2) V (.int v :: st) hc hm f cells slots) : LG x pc V st hc hm f cells slots := by
  obtain ⟨p, l, e, s, m, below, meth, c, D, a, b, o, cy, bs, L, xs⟩ := x
  obtain ⟨hx, hb, hr, hml, hown, hts, hX, hbl, hlk, hK, hZ, hap, hL, hfl⟩ := C
  intro H locs ls hP hQ hO hS hl
  exact lv_iload hx hb d (lv_at hl q hq) (k H locs ls hP hQ hO hS hl)
/-- an int of the script -/
theorem l_arg {n : Int} {j : Nat} (C : Cl x) (hi : i + 6 ≤ lxL x) (hj : j < 6) (hn : Int32.ofInt n = nI j) (d1 : decode cL_law pc = .ok (.aload_n 0, 1)) (d2 : decode cL_law (pc + 1) = .ok (.iload 4, 2)) (d3 : decode cL_law (pc + 1 + 2) = .ok (.iconst n, 1)) (d4 : decode cL_law (pc + 1 + 2 + 1) = .ok (.iadd, 1)) (d5 : decode cL_law (pc + 1 + 2 + 1 + 1) = .ok (.iaload, 1)) (k : LG x (pc + 1 + 2 + 1 + 1 + 1) (Vs x i) (.int (lxX x (i + j)) :: st) hc hm f cells slots) : LG x pc (Vs x i) st hc hm f cells slots := by
  obtain ⟨p, l, e, s, m, below, meth, c, D, a, b, o, cy, bs, L, xs⟩ := x
  obtain ⟨hx, hb, hr, hml, hown, hts, hX, hbl, hlk, hK, hZ, hap, hL, hfl⟩ := C
  have hi : i + 6 ≤ L := hi
  intro H locs ls hP hQ hO hS hl
  refine lv_aload_n hx hb d1 rfl (lv_at hl 4 rfl) ?_
  refine lv_iload hx hb d2 (lv_at hl 0 rfl) ?_
  refine lv_iconst hx hb d3 hn ?_
  refine lv_iadd hx hb d4 ?_
  rw [nI_add]
  refine va_sld hx hb hX hbl (Nat.not_le.mpr hbl) hS (vp_in_nI (show i + j < L by omega) (by omega)) d5 ?_
  have e1 : (nI (i + j)).toNatClampNeg = i + j := ix_nI (by omega)
  rw [e1]
  exact k H locs ls hP hQ hO hS hl
/-- an int of the script as a boolean -/
theorem l_bool {off1 off2 : Int} {v : Int32} (C : Cl x) (d1 : decode cL_law pc = .ok (.ifCond .eq off1, 3)) (h1 : off1 = 7) (d2 : decode cL_law (pc + 3) = .ok (.iconst 1, 1)) (d3 : decode cL_law (pc + 3 + 1) = .ok (.goto off2, 3)) (h2 : off2 = 4) (d4 : decode cL_law (pc + 7) = .ok (.iconst 0, 1)) (k : LG x (pc + 8) V (.int (nI (if v = 0 then 0 else 1)) :: st) hc hm f cells slots) : LG x pc V (.int v :: st) hc hm f cells slots := by
  subst h1; subst h2
  obtain ⟨p, l, e, s, m, below, meth, c, D, a, b, o, cy, bs, L, xs⟩ := x
  obtain ⟨hx, hb, hr, hml, hown, hts, hX, hbl, hlk, hK, hZ, hap, hL, hfl⟩ := C
  intro H locs ls hP hQ hO hS hl
  refine lv_if_eq (tgt := pc + 7) hx hb d1 (by omega) (fun z => ?_) (fun z => ?_)
  · refine lv_iconst (v := 0) hx hb d4 (by decide) ?_
    have := k H locs ls hP hQ hO hS hl
    rw [if_pos z] at this
    exact this
  · refine lv_iconst (v := 1) hx hb d2 (by decide) ?_
    refine lv_goto (tgt := pc + 8) hx hb d3 (by omega) ?_
    have := k H locs ls hP hQ hO hS hl
    rw [if_neg z] at this
    exact this
theorem l_eq {v w : Int32} {off : Int} {tgt : Nat} (C : Cl x) (d : decode cL_law pc = .ok (.if_icmp .eq off, 3)) (ht : (pc : Int) + off = (tgt : Int)) (h : w = v) (k : LG x tgt V st hc hm f cells slots) : LG x pc V (.int v :: .int w :: st) hc hm f cells slots := by
  obtain ⟨p, l, e, s, m, below, meth, c, D, a, b, o, cy, bs, L, xs⟩ := x
  obtain ⟨hx, hb, hr, hml, hown, hts, hX, hbl, hlk, hK, hZ, hap, hL, hfl⟩ := C
  intro H locs ls hP hQ hO hS hl
  exact lv_icmp_eq hx hb d ht (fun _ => k H locs ls hP hQ hO hS hl) (fun z => absurd h z)
theorem l_lcmp_eq {v : Int64} {off : Int} {tgt : Nat} (C : Cl x) (d : decode cL_law pc = .ok (.lcmp, 1)) (d2 : decode cL_law (pc + 1) = .ok (.ifCond .eq off, 3)) (ht : ((pc + 1 : Nat) : Int) + off = (tgt : Int)) (k : LG x tgt V st hc hm f cells slots) : LG x pc V (.long v :: .long v :: st) hc hm f cells slots := by
  obtain ⟨p, l, e, s, m, below, meth, c, D, a, b, o, cy, bs, L, xs⟩ := x
  obtain ⟨hx, hb, hr, hml, hown, hts, hX, hbl, hlk, hK, hZ, hap, hL, hfl⟩ := C
  intro H locs ls hP hQ hO hS hl
  refine W.lcmp hx hb d ?_
  refine lv_if_eq (tgt := tgt) hx hb d2 ht (fun _ => k H locs ls hP hQ hO hS hl) (fun z => absurd ?_ z)
  have h : ¬ v < v := fun z => by rw [Int64.lt_iff_toInt_lt] at z; omega
  simp [lg_cmp, h]
end LRULES
