/-! The layer for constructors: a row of words; a call over a world that is whole. -/
def gWo (k j : Nat) : Int32 := if j < k then nI (wl j) else 0
theorem gWo_0 : gWo 0 = fun _ => 0 := by
  funext j
  unfold gWo
  rw [if_neg (Nat.not_lt_zero j)]
theorem gWo_s (k : Nat) : upd (gWo k) k (nI (wl k)) = gWo (k + 1) := by
  funext j
  unfold upd gWo
  by_cases z : j = k
  · rw [if_pos z, if_pos (by omega), z]
  · rw [if_neg z]
    by_cases z2 : j < k
    · rw [if_pos z2, if_pos (by omega)]
    · rw [if_neg z2, if_neg (by omega)]
section NOK
variable {x : Nx} {l0 : Launch} {own : String} {cc : ByteArray} {rm : Room} {nL0 : Nat} {cy : Nat → ClassId} {mc0 ms0 : Nat} {post0 : va_W → Prop} {pc : Nat} {L : List (Nat × Value)} {st : List Value} {ws : va_W} {cells slots : Nat}
theorem n_word {h0 q1 a k : Nat} {E0 E1 : va_E} {i v : Int32} (C : Cn x l0 own cc rm nL0 cy mc0 ms0 post0) (d : decode cc pc = .ok (.iastore, 1)) (hi : i.toNatClampNeg = k) (hin : vp_in i 101) (hv : v = nI (wl k)) (kk : N x (pc + 1) L st [(h0, E0), (q1, E1), (a, .inl (cy 1, 101, .inl (gWo (k + 1))))] cells slots) : N x pc L (.int v :: .int i :: .ref a :: st) [(h0, E0), (q1, E1), (a, .inl (cy 1, 101, .inl (gWo k)))] cells slots := by
  refine n_iast (q0 := 2) (f := gWo k) (ws' := [(h0, E0), (q1, E1), (a, .inl (cy 1, 101, .inl (gWo (k + 1))))]) C d rfl hin ?_ kk
  rw [hi, hv, gWo_s]
  rfl
/-- a call by a contract over a world that is whole -/
theorem n_ok {Λ : Lay} {y : MethodName} {CN : String} {bytes : ByteArray} {maxL n idx ci : Nat} {rm' : Room} {ad : Nat → Nat} {h : Hp} {post' : Option Value → Hp → Prop} (C : Cn x l0 own cc rm nL0 cy mc0 ms0 post0) (d : decode cc pc = .ok (.invokevirtual idx, 3)) (hm : Cond.methodLink own idx y ∈ wU) (Y : Yv y CN ci bytes maxL none n) (hn : n = 0) (hc : rm'.cells = 0 ∧ rm'.slots = 0) (hR : rm'.frames + 1 ≤ rm.frames ∧ 8 + (maxL + 11) + rm'.locals ≤ rm.locals) (hcs : cells ≤ rm.cells ∧ slots ≤ rm.slots) (hp : 0 < Λ.2.2) (hk : Λ.1 0 = ci) (ok : Ok Λ l0 y bytes maxL none rm' [.ref 0] h post') (hpost : ∀ r h', post' r h' → r = none) (k : ∀ r h', post' r h' → N x (pc + 3) L [] (wd Λ ad cy h') cells slots) : N x pc L [.ref (ad 0)] (wd Λ ad cy h) cells slots := by
  subst hn
  obtain ⟨p', l, e, R, s, m, args, below, meth, c, D, cy', A, nL, Q⟩ := x
  obtain ⟨hx, hb, hml, hown, hts, hK, hlk, hRR, hret, hA, hN, hZ, hl0, hnL, hnm, hcy, hQ⟩ := C
  obtain ⟨y2, y3, y4, y5, y6, y7, q, y8, y9⟩ := Y
  subst hl0; subst hRR; subst hcy
  intro H locs ls hP hD hS hl
  have hAp : ∀ p, p < Λ.2.2 → A (ad p) := fun p hp => hD.2 p _ (wd_at hp)
  have hrecv : ∃ cell : Cell, H[ad 0]? = some cell ∧ cell.vm.isStatics = false ∧ s.vm.findClass CN = some cell.cls := by
    have := va_recv hK hP y8 (q0 := 0) (a := ad 0) (fs := (List.range (nF ci)).map (fval Λ ad h 0)) (by rw [wd_at hp, ent_obj hk y7])
    rw [y9] at this
    exact this
  have hr := va_runV (e := e) (below := below) (meth := meth) (locs := locs) (cells := cells) (slots := slots) (As := []) (rest := []) (n := 0) (b := ad 0) (g := F0 m pc ls [.ref (ad 0)]) ⟨hx, hb, hml, hown, hts⟩ (ok D ad cy' H.size) (cwV 0 hts (in_wsV hm y2 y3 y4 y5) rfl hc.1 hc.2 y6 hR) ⟨Px_blind, hrecv, fun U hU hW => ⟨rfl, Px_of (p := 0) hK hA hAp hZ hP hD hS U hU hW⟩⟩ rfl rfl hl.1 rfl (lv_room (Nat.le_of_ble_eq_true rfl)) d ⟨by simpa using hcs.1, by simpa using hcs.2⟩
  intro T hT X
  obtain ⟨v, st₀, t, T', Lc, h0, X', hL, e1, e2, ⟨⟨r, h', hv, hp', hP1, hK1, hD1⟩, hz, hkq⟩, stp⟩ := hr T hT X
  have hsub := AA_sub (Λ := Λ) (ad := ad) hA hAp hS.1
  rw [h0] at hz hkq
  have hr0 := hpost r h' hp'
  subst hr0
  have hv' : v = none := by injection hv
  subst hv'
  have hS' : va_S A s.heap T'.heap (locs ++ Lc) := ⟨Nat.le_trans hS.1 (by rw [e1]; exact hz), fun q h1 h2 => by rw [e1, hkq q (Nat.lt_of_lt_of_le h1 hS.1) (fun z => h2 (hsub q z))]; exact hS.2.1 q h1 h2, fun q hq => by
      rcases List.mem_append.mp hq with h | h
      · exact hS.2.2 q h
      · exact hsub _ (hL q h)⟩
  have KK := k none h' hp' T'.heap (locs ++ Lc) ls (by rw [e1]; exact hP1) (hD1.weaken (fun _ q _ hq => hsub _ hq)) hS' hl
  obtain ⟨t2, a1, b1⟩ := KK T' rfl X'
  exact ⟨t2, stp t2 a1, b1⟩
end NOK
