/-! Reading a text: a box's line. -/
theorem cnt_up {P P' : Nat → Nat} {k v : Nat} (h : ∀ j, j < k → P' j = P j) (e : P' k = v) : nI (cnt (fun j => decide (0 < P j)) k) + (if v = 0 then 0 else 1) = nI (cnt (fun j => decide (0 < P' j)) (k + 1)) := by
  have h1 : cnt (fun j => decide (0 < P' j)) k = cnt (fun j => decide (0 < P j)) k := cnt_congr (fun j hj => by rw [h j hj])
  have h2 : cnt (fun j => decide (0 < P' j)) (k + 1) = cnt (fun j => decide (0 < P' j)) k + if decide (0 < P' k) = true then 1 else 0 := rfl
  rw [h2, h1, e]
  by_cases q : v = 0
  · rw [if_pos q, if_neg (by rw [q]; decide)]; exact Int32.add_zero _
  · rw [if_neg q, if_pos (by rw [decide_eq_true_eq]; omega), nI_1]
theorem check_fr {u v : Int32} {c c' : Hp} (e : f7_check u v c = some c') : ∀ q k, ¬ q = 3 → c'.1 q k = c.1 q k := by
  intro q k n
  unfold f7_check at e
  by_cases z : u = 0
  · rw [if_pos z] at e
    unfold f7_fail at e
    by_cases z2 : c.1 3 3 = 0
    · simp only [z2, if_true, lt, Option.bind_some] at e
      rw [← Option.some.inj e, wI_o (by omega), wI_o (by omega)]
    · simp only [z2, if_false, Option.bind_some] at e
      rw [← Option.some.inj e]
  · rw [if_neg z] at e
    rw [← Option.some.inj e]
theorem chkN_fr {u v : Int32} {c c' : Hp} (e : f7_checkNumber u v c = some c') : ∀ q k, ¬ q = 3 → c'.1 q k = c.1 q k := by
  intro q k n
  have k49 : ∀ (b : Int32) (h h' : Hp), f7_checkNumber_49 b h = some h' → h'.1 q k = h.1 q k := by
    intro b h h' eh
    simp only [f7_checkNumber_49] at eh
    obtain ⟨h4, e4, e5⟩ := Option.bind_eq_some_iff.mp eh
    rw [← Option.some.inj e5]; exact check_fr e4 q k n
  have k17 : ∀ b : Int32, f7_checkNumber_17 u v b c = some c' → c'.1 q k = c.1 q k := by
    intro b eh
    simp only [f7_checkNumber_17, f7_checkNumber_48] at eh
    obtain ⟨h4, e4, e5⟩ := Option.bind_eq_some_iff.mp eh
    rw [← check_fr e4 q k n]
    by_cases z : h4.1 1 6 < u
    · rw [if_pos z] at e5; exact k49 _ _ _ e5
    · rw [if_neg z] at e5
      by_cases z2 : v < h4.1 1 6
      · rw [if_pos z2] at e5; exact k49 _ _ _ e5
      · rw [if_neg z2] at e5; exact k49 _ _ _ e5
  unfold f7_checkNumber at e
  by_cases z : c.1 1 5 = 2
  · rw [if_pos z] at e; exact k17 _ e
  · rw [if_neg z] at e; exact k17 _ e
section READ5
variable {T : Nat → Nat} {E t : Nat} {c0 m0 : Hp} {D D2 : Sp} {p s x a : Nat} {c m : Hp}
theorem box_loop {nm w d s0 : Nat} (hn : D 0 0 < 6) (hw : w ≤ 99) (hd : 1 ≤ d ∧ d ≤ 9) : ∀ (r k : Nat) (P : Nat → Nat) (p s x a : Nat) (c m : Hp), k + r = 8 → RB T E t c0 m0 D D p s x a c m → BU D t nm w d k P c m → s0 < s → LO T E t c0 m0 s0 (f7_readBox_114 (t + 1 + 1 + 2 * D 0 0) (nI k) c) (f12_boxLine_96 (nI k) m)
  | 0, k, P, p, s, x, a, c, m, hk, h, hb, hs => by
    have hk : k = 8 := by omega
    subst hk
    have g : (8 : Int32) ≤ nI 8 := by decide
    have e1 : f7_readBox_114 (t + 1 + 1 + 2 * D 0 0) (nI 8) c = f7_readBox_162 (t + 1 + 1 + 2 * D 0 0) c := by
      unfold f7_readBox_114
      refine lp_inr ?_
      simp only [f7_readBox_114_s, g, if_true]
    have e2 : f12_boxLine_96 (nI 8) m = f12_boxLine_141 m := by
      unfold f12_boxLine_96
      refine lp_inr ?_
      simp only [f12_boxLine_96_s, g, if_true]
    rw [e1, e2]
    exact box_end h hn hw hd hb hs
  | r + 1, k, P, p, s, x, a, c, m, hk, h, hb, hs => by
    have g : ¬ (8 : Int32) ≤ nI k := by rw [lit]; exact nI_ge (by omega) (by omega)
    have ht := h.2.2.1.2
    rcases h.num (lo := 0) (hi := 9) (by omega) (by omega) with ⟨v, c2, m2, p2, s2, x2, a2, -, hv, n1, n2, n3, k2, hp2, fc2, fm2, -, -⟩ | ⟨f, c2, m2, r', n1, nc, n2, g1, g2⟩
    · have n1 : f7_takeNumber 0 9 c = some (nI v, c2) := n1
      have n2 : f12_number 0 9 m = some (1, m2) := n2
      have sp : s ≤ p := h.1.2.2.2.2.2.1
      have v16 : m2.1 0 16 = nI (D 0 0) := k2.2.2.2.2.1.1.1
      obtain ⟨⟨b1, b2, b3, b4⟩, ⟨b5, b6, b7⟩, b8⟩ := hb
      have z48 : (48 + (8 * nI (D 0 0)) + nI k : Int32) = nI (48 + 8 * D 0 0 + k) := by rw [lit, lit, pk_mul, nI_add, nI_add]
      have hcu : nI (cnt (fun j => decide (0 < P j)) k) + (if v = 0 then 0 else 1) = nI (cnt (fun j => decide (0 < if j = k then v else P j)) (k + 1)) := cnt_up (P' := fun j => if j = k then v else P j) (fun j hj => if_neg (by omega)) (if_pos rfl)
      obtain ⟨u, eu⟩ : ∃ u : Int32, u = nI (cnt (fun j => decide (0 < if j = k then v else P j)) (k + 1)) := ⟨_, rfl⟩
      have k3 : RB T E t c0 m0 D D p2 s2 x2 a2 (wI c2 (t + 1 + 1 + 2 * D 0 0 + 1) k (nI v)) m2 := k2.wC (by omega) (fun i _ _ => by omega) (k2.2.2.2.1.fr (fun q k n => wI_o (by omega))) k2.2.2.2.2.2.1
      have k4 : RB T E t c0 m0 D D p2 s2 x2 a2 (wI (wI c2 (t + 1 + 1 + 2 * D 0 0 + 1) k (nI v)) (t + 1 + 1 + 2 * D 0 0) 3 u) m2 := k3.wC (by omega) (fun i _ _ => by omega) (k3.2.2.2.1.fr (fun q k n => wI_o (by omega))) k3.2.2.2.2.2.1
      have k5 : RB T E t c0 m0 D D p2 s2 x2 a2 (wI (wI c2 (t + 1 + 1 + 2 * D 0 0 + 1) k (nI v)) (t + 1 + 1 + 2 * D 0 0) 3 u) (wI m2 8 (48 + 8 * D 0 0 + k) (nI v)) := k4.wM (by unfold rdM; omega) (by omega) (k4.2.2.2.2.1.fr (fun q k n => wI_o (by omega)))
      have cf : ∀ q k', ¬ q = 1 → c2.1 q k' = c.1 q k' := fun q k' n => fc2.1 _ _ (by omega)
      have mf : ∀ q k', ¬ q = 0 → m2.1 q k' = m.1 q k' := fun q k' n => by rw [fm2.1 _ _ (by omega), wI_o (by omega)]
      have ih := box_loop (nm := nm) (s0 := s0) hn hw hd r (k + 1) (fun j => if j = k then v else P j) p2 s2 x2 a2 _ _ (by omega) k5 (by
        refine ⟨⟨?_, ?_, ?_, ?_⟩, ⟨?_, ?_, ?_⟩, fun j hj => ?_⟩
        · rw [wI_o (by omega), wI_o (by omega), cf _ _ (by omega)]; exact b1
        · rw [wI_o (by omega), wI_o (by omega), cf _ _ (by omega)]; exact b2
        · rw [wI_o (by omega), wI_o (by omega), cf _ _ (by omega)]; exact b3
        · rw [wI_s]; exact eu
        · rw [wI_o (by omega), mf _ _ (by omega)]; exact b5
        · rw [wI_o (by omega), mf _ _ (by omega)]; exact b6
        · rw [wI_o (by omega), mf _ _ (by omega)]; exact b7
        · dsimp only
          by_cases z : j = k
          · subst z
            rw [if_pos rfl, wI_o (by omega), wI_s, wI_s]; exact ⟨hv, rfl, rfl⟩
          · rw [if_neg z, wI_o (by omega), wI_o (by omega), wI_o (by omega), cf _ _ (by omega), mf _ _ (by omega)]; exact b8 j (by omega)) (by omega)
      have c3 : (wI c2 (t + 1 + 1 + 2 * D 0 0 + 1) k (nI v)).1 (t + 1 + 1 + 2 * D 0 0) 3 = nI (cnt (fun j => decide (0 < P j)) k) := by rw [wI_o (by omega), cf _ _ (by omega)]; exact b4
      have e1 : f7_readBox_114 (t + 1 + 1 + 2 * D 0 0) (nI k) c = f7_readBox_114 (t + 1 + 1 + 2 * D 0 0) (nI (k + 1)) (wI (wI c2 (t + 1 + 1 + 2 * D 0 0 + 1) k (nI v)) (t + 1 + 1 + 2 * D 0 0) 3 u) := by
        unfold f7_readBox_114
        refine lp_inl ?_
        rw [← hcu] at eu
        by_cases q : v = 0
        · have q1 : nI v ≤ 0 := by rw [q]; decide
          rw [if_pos q] at eu
          simp only [f7_readBox_114_s, g, if_false, n1, Option.bind_some, gd, inb_t (show k < 8 by omega) (by omega), ix_nI (show k < 2 ^ 31 by omega), if_true, lt, wI_s, q1, c3, f7_readBox_152, nI_1, eu]
        · have q1 : ¬ nI v ≤ 0 := by rw [lit]; exact nI_ge (by omega) (by omega)
          rw [if_neg q] at eu
          simp only [f7_readBox_114_s, g, if_false, n1, Option.bind_some, gd, inb_t (show k < 8 by omega) (by omega), ix_nI (show k < 2 ^ 31 by omega), if_true, lt, wI_s, q1, c3, f7_readBox_152, nI_1, eu]
      have e2 : f12_boxLine_96 (nI k) m = f12_boxLine_96 (nI (k + 1)) (wI m2 8 (48 + 8 * D 0 0 + k) (nI v)) := by
        unfold f12_boxLine_96
        refine lp_inl ?_
        simp only [f12_boxLine_96_s, g, if_false, n2, Option.bind_some, one_ne, v16, z48, gd, inb_t (show 48 + 8 * D 0 0 + k < 96 by omega) (by omega), ix_nI (show 48 + 8 * D 0 0 + k < 2 ^ 31 by omega), if_true, lt, n3, nI_1]
      rw [e1, e2]
      exact ih
    · have n1 : f7_takeNumber 0 9 c = some (r', c2) := n1
      have n2 : f12_number 0 9 m = some (0, m2) := n2
      have c5 : c2.1 t 5 = nI (D 0 0) := (chkN_fr nc _ _ (by omega)).trans h.2.2.2.1.1.1
      have k1 : FCl t c0 f s (wI c2 (t + 1 + 1 + 2 * D 0 0 + 1) k r') := g1.w (by omega) (fun i _ _ => by omega) (by omega)
      have fin : ∀ u : Int32, ∃ c', f7_readBox_114 (t + 1 + 1 + 2 * D 0 0) (nI (k + 1)) (wI (wI c2 (t + 1 + 1 + 2 * D 0 0 + 1) k r') (t + 1 + 1 + 2 * D 0 0) 3 u) = some c' ∧ FCl t c0 f s c' := fun u =>
        FCl.box114 hn r (k + 1) _ (by omega) (k1.w (by omega) (fun i _ _ => by omega) (by omega)) (by rw [wI_o (by omega), wI_o (by omega)]; exact c5)
      have e1 : ∃ c', f7_readBox_114 (t + 1 + 1 + 2 * D 0 0) (nI k) c = some c' ∧ FCl t c0 f s c' := by
        unfold f7_readBox_114 at fin ⊢
        by_cases q : r' ≤ 0
        · obtain ⟨c', e, k'⟩ := fin ((wI c2 (t + 1 + 1 + 2 * D 0 0 + 1) k r').1 (t + 1 + 1 + 2 * D 0 0) 3 + 0)
          refine ⟨c', ?_, k'⟩
          rw [← e]
          refine lp_inl ?_
          simp only [f7_readBox_114_s, g, if_false, n1, Option.bind_some, gd, inb_t (show k < 8 by omega) (by omega), ix_nI (show k < 2 ^ 31 by omega), if_true, lt, wI_s, q, f7_readBox_152, nI_1]
        · obtain ⟨c', e, k'⟩ := fin ((wI c2 (t + 1 + 1 + 2 * D 0 0 + 1) k r').1 (t + 1 + 1 + 2 * D 0 0) 3 + 1)
          refine ⟨c', ?_, k'⟩
          rw [← e]
          refine lp_inl ?_
          simp only [f7_readBox_114_s, g, if_false, n1, Option.bind_some, gd, inb_t (show k < 8 by omega) (by omega), ix_nI (show k < 2 ^ 31 by omega), if_true, lt, wI_s, q, f7_readBox_152, nI_1]
      obtain ⟨c', e1, k'⟩ := e1
      refine Or.inr ⟨f, s, c', m2, e1, ?_, k', g2⟩
      unfold f12_boxLine_96
      refine lp_inr (o := some (0, m2)) ?_
      simp only [f12_boxLine_96_s, g, if_false, n2, Option.bind_some, if_true, Option.map_some]
theorem box_line (h : RB T E t c0 m0 D D p s x a c m) (hx : x ≠ 0) : LO T E t c0 m0 s (f7_readBox c) (f12_boxLine m) := by
  have hkd := kd10 h.2.2.1.2
  have hr := h.2.2.1.1
  have ht := h.2.2.1.2
  have hsp := h.lt hx
  have d1 := h.2.2.2.1
  have d2 := h.2.2.2.2.1
  have w := h.2.2.2.2.2.1
  have v8 : c.1 t 5 = nI (D 0 0) := d1.1.1
  have v19 : m.1 0 16 = nI (D 0 0) := d2.1.1
  have w1 := w.1
  by_cases q : D 0 0 = 6
  · obtain ⟨c1, m1, e1, e2, g1, g2⟩ := h.fail (f := 2) (by omega)
    have e1 : f7_fail 2 c = some c1 := e1
    have e2 : f12_wrong 2 m = some (0, m1) := e2
    have z8 : (6 : Int32) ≤ c.1 t 5 := by rw [v8, q]; decide
    have z19 : m.1 0 16 = 6 := by rw [v19, q]; rfl
    have hg := g1.box18 0
    refine Or.inr ⟨2, s, c1, m1, ?_, ?_, g1, g2⟩
    · simp only [f7_readBox, hr, Option.bind_some, gd, hkd, if_true, z8]
      unfold f7_readBox_18 at hg ⊢
      simp only [f7_check, if_true, e1, Option.bind_some]
      rw [g1.check, Option.bind_some] at hg
      exact hg
    · simp only [f12_boxLine, z19, if_true, e2, Option.bind_some, gd, bzz]
  · have hn : D 0 0 < 6 := by omega
    have z8 : ¬ (6 : Int32) ≤ c.1 t 5 := by rw [v8, show (6 : Int32) = nI 6 from rfl]; exact nI_ge (by omega) (by omega)
    have z19 : ¬ m.1 0 16 = 6 := by rw [v19, show (6 : Int32) = nI 6 from rfl, nI_eq (by omega) (by omega)]; exact q
    obtain ⟨c1, m1, p1, s1, x1, a1, e1, e2, k1, hp1, fc1, fm1⟩ := h.next
    have es : f7_step c = some c1 := by simp only [f7_step, h.2.1.1, if_true, e1, Option.bind_some]
    have hr1 := k1.2.2.1.1
    have ss1 : s1 ≤ p1 := k1.1.2.2.2.2.2.1
    have v8' : c1.1 t 5 = nI (D 0 0) := k1.2.2.2.1.1.1
    have v19' : m1.1 0 16 = nI (D 0 0) := k1.2.2.2.2.1.1.1
    have z6 : (6 + nI (D 0 0) : Int32) = nI (6 + D 0 0) := by rw [lit, nI_add]
    have eC : ∀ (v : Int32) (c2 : Hp), f7_takeName c1 = some (v, c2) → f7_readBox c = (c2.2.2 3 2).bind fun p8 => gd (decide (kdC p8 = 10)) <| (f10_boxNamed p8 v c2).bind fun r10 => if r10 = (-1) then (f7_readBox_49 v 1 c2) else (f7_readBox_49 v 0 c2) := by
      intro v c2 ev
      simp only [f7_readBox, f7_readBox_18, hr, Option.bind_some, gd, hkd, if_true, z8, if_false, f7_check, one_ne, es, ev]
    have eM : f12_boxLine m = (f12_newName 5 6 (nI (D 0 0)) m1).bind fun (r3, h4) => if r3 = 0 then (some ((0 : Int32), h4)) else ((f12_number 0 99 h4).bind fun (r6, h7) => if r6 = 0 then (some ((0 : Int32), h7)) else (gd (inb (6 + (h7.1 0 16)) 12) <| lt (wI h7 6 (ix (6 + (h7.1 0 16))) (h7.1 0 11)) fun h10 => (f12_number 1 9 h10).bind fun (r11, h12) => if r11 = 0 then (some ((0 : Int32), h12)) else (gd (inb (6 + (h12.1 0 16)) 12) <| lt (wI h12 7 (ix (6 + (h12.1 0 16))) (h12.1 0 11)) fun h15 => f12_boxLine_96 0 h15))) := by
      simp only [f12_boxLine, z19, if_false, e2, Option.bind_some, v19']
    rcases k1.name with ⟨-, ha, n1, n2, n3⟩ | ⟨nk, c2, m2, n1, n2, g1, g2, -⟩
    · have sC := boxNamed_eq (v := nI a1) v8' w1
      have sM := seekM (p := 5) (fr := 6) (n := D 0 0) (ln := 12) (v := nI a1) (m := m1) rfl (by omega) (by omega)
      have sM : f12_seek 5 6 (nI (D 0 0)) (nI a1) m1 = _ := sM
      rw [fnd_c (N' := fun i => m1.1 5 (6 + i)) (D 0 0) (fun i hi => by rw [(k1.2.2.2.1.2.1 i hi).1, (k1.2.2.2.2.1.2.1 i hi).1])] at sC
      rw [eC _ _ n1, eM]
      cases ho : fnd (fun i => m1.1 5 (6 + i)) (nI a1) (D 0 0) with
      | some j =>
        obtain ⟨hj, -, -⟩ := (fnd_s (D 0 0)).2 j ho
        rw [ho, eI_s] at sC sM
        obtain ⟨c2, m2, e3, e4, g1, g2⟩ := k1.fail (f := 3) (by omega)
        have e3 : f7_fail 3 c1 = some c2 := e3
        have e4 : f12_wrong 3 m1 = some (0, m2) := e4
        have hg := g1.box49 (nI a1) 0
        refine Or.inr ⟨3, s1, c2, m2, ?_, ?_, g1, g2⟩
        · simp only [hr1, Option.bind_some, gd, hkd, if_true, sC, m1_ne (show j < 2 ^ 31 by omega), if_false]
          unfold f7_readBox_49 at hg ⊢
          simp only [f7_check, if_true, e3, Option.bind_some]
          rw [g1.check, Option.bind_some] at hg
          exact hg
        · simp only [f12_newName, n2, if_true, n3, sM, Option.bind_some, nI_pos (show j < 2 ^ 31 by omega), if_false, e4, gd, bzz]
      | none =>
        rw [ho, eI_n] at sC sM
        have dm : drM D (wI m1 5 (6 + D 0 0) (nI a1)) := k1.2.2.2.2.1.fr (fun q k n => wI_o (by omega))
        have k1' := k1.wM (D' := D) (q := 5) (k := 6 + D 0 0) (v := nI a1) (by unfold rdM; omega) (by omega) dm
        obtain ⟨c2, m2, p2, s2, x2, a2, e3, e4, k2, hp2, fc2, fm2⟩ := k1'.next
        have es2 : f7_step c1 = some c2 := by simp only [f7_step, k1.2.1.1, if_true, e3, Option.bind_some]
        have ss2 : s2 ≤ p2 := k2.1.2.2.2.2.2.1
        have hr2 := k2.2.2.1.1
        have f2 := k2.2.1.1
        have v82 : c2.1 t 5 = nI (D 0 0) := k2.2.2.2.1.1.1
        have v19'' : m2.1 0 16 = nI (D 0 0) := k2.2.2.2.2.1.1.1
        have eNM : f12_newName 5 6 (nI (D 0 0)) m1 = some (1, m2) := by
          simp only [f12_newName, n2, if_true, n3, sM, Option.bind_some, show ((-1 : Int32) < 0) = True from by decide, gd, z6, show lnM 5 = 12 from rfl, inb_t (show 6 + D 0 0 < 12 by omega) (by omega), ix_nI (show 6 + D 0 0 < 2 ^ 31 by omega), lt, e4]
        have e49 : ((c1.2.2 3 2).bind fun p8 => gd (decide (kdC p8 = 10)) <| (f10_boxNamed p8 (nI a1) c1).bind fun r10 => if r10 = (-1) then (f7_readBox_49 (nI a1) 1 c1) else (f7_readBox_49 (nI a1) 0 c1)) = lt (wI c2 (t + 1 + 1 + 2 * D 0 0) 1 (nI a1)) fun h21 => (f7_takeNumber 0 99 h21).bind fun (r22, h23) => lt (wI h23 (t + 1 + 1 + 2 * D 0 0) 5 r22) fun h24 => (f7_takeNumber 1 9 h24).bind fun (r25, h26) => lt (wI h26 (t + 1 + 1 + 2 * D 0 0) 2 r25) fun h27 => lt (wI h27 (t + 1 + 1 + 2 * D 0 0) 3 0) fun h28 => f7_readBox_114 (t + 1 + 1 + 2 * D 0 0) 0 h28 := by
          simp only [hr1, Option.bind_some, gd, hkd, if_true, sC, f7_readBox_49, f7_check, one_ne, if_false, es2, f2, hr2, v82, inb_t hn (by omega), ix_nI (show D 0 0 < 2 ^ 31 by omega), lt]
        rw [e49]
        have k2' : RB T E t c0 m0 D D p2 s2 x2 a2 (wI c2 (t + 1 + 1 + 2 * D 0 0) 1 (nI a1)) m2 := k2.wC (by omega) (fun i _ _ => by omega) (k2.2.2.2.1.fr (fun q k n => wI_o (by omega))) k2.2.2.2.2.2.1
        rcases k2'.num (lo := 0) (hi := 99) (by omega) (by omega) with ⟨v, c3, m3, p3, s3, x3, a3, -, hv, y1, y2, y3, k3, hp3, fc3, fm3, -, -⟩ | ⟨f, c3, m3, r, y1, yc, y2, g1, g2⟩
        · have y1 : f7_takeNumber 0 99 (wI c2 (t + 1 + 1 + 2 * D 0 0) 1 (nI a1)) = some (nI v, c3) := y1
          have y2 : f12_number 0 99 m2 = some (1, m3) := y2
          have ss3 : s3 ≤ p3 := k3.1.2.2.2.2.2.1
          have v163 : m3.1 0 16 = nI (D 0 0) := k3.2.2.2.2.1.1.1
          have k3' : RB T E t c0 m0 D D p3 s3 x3 a3 (wI c3 (t + 1 + 1 + 2 * D 0 0) 5 (nI v)) m3 := k3.wC (by omega) (fun i _ _ => by omega) (k3.2.2.2.1.fr (fun q k n => wI_o (by omega))) k3.2.2.2.2.2.1
          have k3'' : RB T E t c0 m0 D D p3 s3 x3 a3 (wI c3 (t + 1 + 1 + 2 * D 0 0) 5 (nI v)) (wI m3 6 (6 + D 0 0) (nI v)) := k3'.wM (by unfold rdM; omega) (by omega) (k3'.2.2.2.2.1.fr (fun q k n => wI_o (by omega)))
          rcases k3''.num (lo := 1) (hi := 9) (by omega) (by omega) with ⟨u, c4, m4, p4, s4, x4, a4, hu1, hu, b1, b2, b3, k4, hp4, fc4, fm4, -, -⟩ | ⟨f, c4, m4, r, b1, bc, b2, g1, g2⟩
          · have b1 : f7_takeNumber 1 9 (wI c3 (t + 1 + 1 + 2 * D 0 0) 5 (nI v)) = some (nI u, c4) := b1
            have b2 : f12_number 1 9 (wI m3 6 (6 + D 0 0) (nI v)) = some (1, m4) := b2
            have v164 : m4.1 0 16 = nI (D 0 0) := k4.2.2.2.2.1.1.1
            have k5 : RB T E t c0 m0 D D p4 s4 x4 a4 (wI c4 (t + 1 + 1 + 2 * D 0 0) 2 (nI u)) m4 := k4.wC (by omega) (fun i _ _ => by omega) (k4.2.2.2.1.fr (fun q k n => wI_o (by omega))) k4.2.2.2.2.2.1
            have k6 : RB T E t c0 m0 D D p4 s4 x4 a4 (wI (wI c4 (t + 1 + 1 + 2 * D 0 0) 2 (nI u)) (t + 1 + 1 + 2 * D 0 0) 3 0) m4 := k5.wC (by omega) (fun i _ _ => by omega) (k5.2.2.2.1.fr (fun q k n => wI_o (by omega))) k5.2.2.2.2.2.1
            have k7 : RB T E t c0 m0 D D p4 s4 x4 a4 (wI (wI c4 (t + 1 + 1 + 2 * D 0 0) 2 (nI u)) (t + 1 + 1 + 2 * D 0 0) 3 0) (wI m4 7 (6 + D 0 0) (nI u)) := k6.wM (by unfold rdM; omega) (by omega) (k6.2.2.2.2.1.fr (fun q k n => wI_o (by omega)))
            have key := box_loop (nm := a1) (w := v) (d := u) (s0 := s) hn hv ⟨hu1, hu⟩ 8 0 (fun _ => 0) p4 s4 x4 a4 _ _ (by omega) k7 (by
              refine ⟨⟨?_, ?_, ?_, ?_⟩, ⟨?_, ?_, ?_⟩, fun j hj => by omega⟩
              · rw [wI_o (by omega), wI_o (by omega), fc4.1 _ _ (by omega), wI_o (by omega), fc3.1 _ _ (by omega), wI_s]
              · rw [wI_o (by omega), wI_o (by omega), fc4.1 _ _ (by omega), wI_s]
              · rw [wI_o (by omega), wI_s]
              · rw [wI_s]; rfl
              · rw [wI_o (by omega), fm4.1 _ _ (by omega), wI_o (by omega), wI_o (by omega), fm3.1 _ _ (by omega), wI_o (by omega), fm2.1 _ _ (by omega), wI_s]
              · rw [wI_o (by omega), fm4.1 _ _ (by omega), wI_o (by omega), wI_s]
              · rw [wI_s]) (by omega)
            have eR : ((f12_newName 5 6 (nI (D 0 0)) m1).bind fun (r3, h4) => if r3 = 0 then (some ((0 : Int32), h4)) else ((f12_number 0 99 h4).bind fun (r6, h7) => if r6 = 0 then (some ((0 : Int32), h7)) else (gd (inb (6 + (h7.1 0 16)) 12) <| lt (wI h7 6 (ix (6 + (h7.1 0 16))) (h7.1 0 11)) fun h10 => (f12_number 1 9 h10).bind fun (r11, h12) => if r11 = 0 then (some ((0 : Int32), h12)) else (gd (inb (6 + (h12.1 0 16)) 12) <| lt (wI h12 7 (ix (6 + (h12.1 0 16))) (h12.1 0 11)) fun h15 => f12_boxLine_96 0 h15)))) = f12_boxLine_96 (nI 0) (wI m4 7 (6 + D 0 0) (nI u)) := by
              simp only [eNM, Option.bind_some, one_ne, if_false, lt, y2, v163, z6, gd, inb_t (show 6 + D 0 0 < 12 by omega) (by omega), ix_nI (show 6 + D 0 0 < 2 ^ 31 by omega), if_true, y3, b2, v164, b3]
              rfl
            rw [eR]
            simp only [lt, y1, b1, Option.bind_some]
            exact key
          · have b1 : f7_takeNumber 1 9 (wI c3 (t + 1 + 1 + 2 * D 0 0) 5 (nI v)) = some (r, c4) := b1
            have b2 : f12_number 1 9 (wI m3 6 (6 + D 0 0) (nI v)) = some (0, m4) := b2
            have c5 : c4.1 t 5 = nI (D 0 0) := (chkN_fr bc _ _ (by omega)).trans ((wI_o (by omega)).trans k3.2.2.2.1.1.1)
            obtain ⟨c', ec, gc⟩ := FCl.box114 hn 8 0 (wI (wI c4 (t + 1 + 1 + 2 * D 0 0) 2 r) (t + 1 + 1 + 2 * D 0 0) 3 0) (by omega) ((g1.w (by omega) (fun i _ _ => by omega) (by omega)).w (by omega) (fun i _ _ => by omega) (by omega)) (by rw [wI_o (by omega), wI_o (by omega)]; exact c5)
            refine Or.inr ⟨f, s3, c', m4, ?_, ?_, gc, g2⟩
            · simp only [lt, y1, b1, Option.bind_some]
              exact ec
            · simp only [eNM, Option.bind_some, one_ne, if_false, lt, y2, v163, z6, gd, inb_t (show 6 + D 0 0 < 12 by omega) (by omega), ix_nI (show 6 + D 0 0 < 2 ^ 31 by omega), if_true, y3, b2]
        · have y1 : f7_takeNumber 0 99 (wI c2 (t + 1 + 1 + 2 * D 0 0) 1 (nI a1)) = some (r, c3) := y1
          have y2 : f12_number 0 99 m2 = some (0, m3) := y2
          have c5 : c3.1 t 5 = nI (D 0 0) := (chkN_fr yc _ _ (by omega)).trans ((wI_o (by omega)).trans k2.2.2.2.1.1.1)
          have g1' : FCl t c0 f s2 (wI c3 (t + 1 + 1 + 2 * D 0 0) 5 r) := g1.w (by omega) (fun i _ _ => by omega) (by omega)
          have b1 := g1'.num 1 9
          generalize (wI c3 (t + 1 + 1 + 2 * D 0 0) 5 r).1 1 6 = r2 at b1
          obtain ⟨c', ec, gc⟩ := FCl.box114 hn 8 0 (wI (wI (wI c3 (t + 1 + 1 + 2 * D 0 0) 5 r) (t + 1 + 1 + 2 * D 0 0) 2 r2) (t + 1 + 1 + 2 * D 0 0) 3 0) (by omega) ((g1'.w (by omega) (fun i _ _ => by omega) (by omega)).w (by omega) (fun i _ _ => by omega) (by omega)) (by rw [wI_o (by omega), wI_o (by omega), wI_o (by omega)]; exact c5)
          refine Or.inr ⟨f, s2, c', m3, ?_, ?_, gc, g2⟩
          · simp only [lt, y1, b1, Option.bind_some]
            exact ec
          · simp only [eNM, Option.bind_some, one_ne, if_false, lt, y2, if_true]
    · -- no name
      obtain ⟨ng, hng, eg⟩ := g1.2.2.2.2.2.2.2.1
      refine Or.inr ⟨1, s1, c2, m2, ?_, ?_, g1, g2⟩
      · rw [eC _ _ n1]
        simp only [g1.2.2.2.2.1.1, Option.bind_some, gd, hkd, if_true, boxNamed_eq eg hng, g1.box49, ite_self]
      · rw [eM]
        simp only [f12_newName, nk, if_false, n2, Option.bind_some, gd, bzz, if_true]
end READ5
