/-! Reading a text: boxes that are there; teeth. -/
theorem bset9 : ∀ x, x < 512 → ∀ k, k < 9 → tb (2 * x) (k + 1) = false → nI (2 * x) ||| ((1 : Int32) <<< (nI (k + 1) &&& 31)) = nI (2 * x + 2 ^ (k + 1)) ∧ 2 * x + 2 ^ (k + 1) < 1024 ∧ (2 * x + 2 ^ (k + 1)) % 2 = 0 := by decide +kernel
theorem drC.upB {D D' : Sp} {t : Nat} {c c' : Hp} (h : drC D t c) (hn : D 0 0 ≤ 6) (e : ∀ a b, ¬ (a = 4 ∨ a = 5 ∨ a = 0 ∧ (b = 2 ∨ b = 23)) → D' a b = D a b) (o : ∀ q k, t ≤ q → q ≤ t + 22 → ¬ (q = t ∧ (k = 6 ∨ k = 7)) → (∀ i, i < 6 → ¬ (q = t + 1 + 1 + 2 * i ∧ (k = 4 ∨ k = 9))) → c'.1 q k = c.1 q k) (s1 : c'.1 t 6 = nI (D' 0 23)) (s2 : c'.1 t 7 = nI (D' 0 2)) (s3 : ∀ i, i < D 0 0 → c'.1 (t + 1 + 1 + 2 * i) 4 = nI (D' 5 i) ∧ c'.1 (t + 1 + 1 + 2 * i) 9 = nI (D' 4 i)) : drC D' t c' := by
  obtain ⟨⟨a1, a2, a3, a4, a5, a6, a7, a8, a9⟩, b, g, l1, l2, l3⟩ := h
  refine ⟨⟨?_, s1, s2, ?_, ?_, ?_, ?_, ?_, ?_⟩, fun i hi => ?_, fun x hx => ?_, l1, fun i hi => ?_, fun l hl => ?_⟩
  · rw [e _ _ (by omega), o _ _ (by omega) (by omega) (by omega) (fun i _ => by omega)]; exact a1
  · rw [e _ _ (by omega), o _ _ (by omega) (by omega) (by omega) (fun i _ => by omega)]; exact a4
  · rw [e _ _ (by omega), o _ _ (by omega) (by omega) (by omega) (fun i _ => by omega)]; exact a5
  · rw [e _ _ (by omega), o _ _ (by omega) (by omega) (by omega) (fun i _ => by omega)]; exact a6
  · rw [e _ _ (by omega), o _ _ (by omega) (by omega) (by omega) (fun i _ => by omega)]; exact a7
  · rw [e _ _ (by omega), o _ _ (by omega) (by omega) (by omega) (fun i _ => by omega)]; exact a8
  · rw [e _ _ (by omega), o _ _ (by omega) (by omega) (by omega) (fun i _ => by omega)]; exact a9
  · rw [e _ _ (by omega)] at hi
    have ep : pinN D' i = pinN D i := by unfold pinN; exact cnt_congr (fun k _ => by rw [e 7 _ (by omega)])
    obtain ⟨h1, h2, h3, h4, h5, h6, h7⟩ := b i hi
    obtain ⟨u1, u2⟩ := s3 i hi
    refine ⟨?_, ?_, ?_, u1, ?_, u2, fun k hk => ?_⟩
    · rw [e _ _ (by omega), o _ _ (by omega) (by omega) (by omega) (fun i _ => by omega)]; exact h1
    · rw [e _ _ (by omega), o _ _ (by omega) (by omega) (by omega) (fun i _ => by omega)]; exact h2
    · rw [ep, o _ _ (by omega) (by omega) (by omega) (fun i _ => by omega)]; exact h3
    · rw [e _ _ (by omega), o _ _ (by omega) (by omega) (by omega) (fun i _ => by omega)]; exact h5
    · rw [e _ _ (by omega), o _ _ (by omega) (by omega) (by omega) (fun i _ => by omega)]; exact h7 k hk
  · rw [e _ _ (by omega)] at hx
    rw [e 11 x (by omega), e 12 x (by omega), e 13 x (by omega), o _ _ (by omega) (by omega) (by omega) (fun i _ => by omega), o _ _ (by omega) (by omega) (by omega) (fun i _ => by omega), o _ _ (by omega) (by omega) (by omega) (fun i _ => by omega)]; exact g x hx
  · rw [e _ _ (by omega)] at hi
    rw [e 40 i (by omega), e 41 i (by omega), o _ _ (by omega) (by omega) (by omega) (fun i _ => by omega), o _ _ (by omega) (by omega) (by omega) (fun i _ => by omega)]; exact l2 i hi
  · rw [e 42 l (by omega), e 43 l (by omega), o _ _ (by omega) (by omega) (by omega) (fun i _ => by omega), o _ _ (by omega) (by omega) (by omega) (fun i _ => by omega)]; exact l3 l hl
theorem drM.upB {D D' : Sp} {m m' : Hp} (h : drM D m) (hn : D 0 0 ≤ 6) (e : ∀ a b, ¬ (a = 4 ∨ a = 5 ∨ a = 0 ∧ (b = 2 ∨ b = 23)) → D' a b = D a b) (o : ∀ q k, ¬ (q = 0 ∧ (k = 17 ∨ k = 18)) → ¬ (q = 9 ∨ q = 10) → m'.1 q k = m.1 q k) (s1 : m'.1 0 17 = nI (D' 0 23)) (s2 : m'.1 0 18 = nI (D' 0 2)) (s3 : ∀ i, i < D 0 0 → m'.1 9 (6 + i) = nI (D' 4 i) ∧ m'.1 10 (6 + i) = nI (D' 5 i)) (s4 : ∀ k, 6 + D 0 0 ≤ k → m'.1 9 k = m.1 9 k ∧ m'.1 10 k = m.1 10 k) : drM D' m' := by
  obtain ⟨⟨a1, a2, a3, a4, a5, a6, a7, a8, a9, a10⟩, b, z, g, l2, l3⟩ := h
  refine ⟨⟨?_, s1, s2, ?_, ?_, ?_, ?_, ?_, ?_, ?_⟩, fun i hi => ?_, fun i h1 h2 => ?_, fun x hx => ?_, fun i hi => ?_, fun l hl => ?_⟩
  · rw [e _ _ (by omega), o _ _ (by omega) (by omega)]; exact a1
  · rw [e _ _ (by omega), o _ _ (by omega) (by omega)]; exact a4
  · rw [e _ _ (by omega), o _ _ (by omega) (by omega)]; exact a5
  · rw [e _ _ (by omega), o _ _ (by omega) (by omega)]; exact a6
  · rw [e _ _ (by omega), o _ _ (by omega) (by omega)]; exact a7
  · rw [e _ _ (by omega), o _ _ (by omega) (by omega)]; exact a8
  · rw [e _ _ (by omega), o _ _ (by omega) (by omega)]; exact a9
  · rw [e _ _ (by omega), o _ _ (by omega) (by omega)]; exact a10
  · rw [e _ _ (by omega)] at hi
    obtain ⟨b1, b2, b3, b4, b5, b6⟩ := b i hi
    obtain ⟨u1, u2⟩ := s3 i hi
    rw [e 10 i (by omega), e 2 i (by omega), e 1 i (by omega), o 5 _ (by omega) (by omega), o 6 _ (by omega) (by omega), o 7 _ (by omega) (by omega)]
    exact ⟨b1, b2, b3, u1, u2, fun k hk => by rw [e 7 _ (by omega), o 8 _ (by omega) (by omega)]; exact b6 k hk⟩
  · rw [e _ _ (by omega)] at h1
    rw [(s4 (6 + i) (by omega)).1, (s4 (6 + i) (by omega)).2]
    exact z i h1 h2
  · rw [e _ _ (by omega)] at hx
    rw [e 11 x (by omega), e 12 x (by omega), e 13 x (by omega), o 11 _ (by omega) (by omega), o 12 _ (by omega) (by omega), o 13 _ (by omega) (by omega)]; exact g x hx
  · rw [e _ _ (by omega)] at hi
    rw [e 40 i (by omega), e 44 i (by omega), e 45 i (by omega), o 17 _ (by omega) (by omega), o 18 _ (by omega) (by omega), o 19 _ (by omega) (by omega)]; exact l2 i hi
  · rw [e 42 l (by omega), e 43 l (by omega), o 14 _ (by omega) (by omega), o 15 _ (by omega) (by omega), o 16 _ (by omega) (by omega)]; exact l3 l hl
theorem wfD.upB {D D' : Sp} (h : wfD D) (e : ∀ a b, ¬ (a = 4 ∨ a = 5 ∨ a = 0 ∧ (b = 2 ∨ b = 23)) → D' a b = D a b) (s1 : D' 0 23 ≤ 12) (s2 : D' 0 2 ≤ 9) (s3 : ∀ i, i < D 0 0 → (D' 4 i < 1024 ∧ D' 4 i % 2 = 0) ∧ D' 5 i < 64 ∧ tb (D' 5 i) i = false) : wfD D' := by
  obtain ⟨h1, h2, h3, h4, h5, h6, h7, h8, h9, h10, h11⟩ := h
  refine ⟨by rw [e _ _ (by omega)]; exact h1, by rw [e _ _ (by omega)]; exact h2, s2, s1, by rw [e _ _ (by omega)]; exact h5, by rw [e _ _ (by omega)]; exact h6, by rw [e _ _ (by omega)]; exact h7, by rw [e _ _ (by omega)]; exact h8, fun i hi => ?_, fun g hg => ?_, h11.cg (e _ _ (by omega)) (fun a b _ _ => e a b (by omega))⟩
  · rw [e _ _ (by omega)] at hi
    rw [e 1 i (by omega), e 2 i (by omega)]
    obtain ⟨b1, b2, b3, b4, b5, b6⟩ := h9 i hi
    obtain ⟨u1, u2, u3⟩ := s3 i hi
    exact ⟨b1, b2, u1, u2, u3, fun k hk => by rw [e 7 _ (by omega)]; exact b6 k hk⟩
  · rw [e _ _ (by omega)] at hg
    rw [e 12 g (by omega), e 13 g (by omega)]; exact h10 g hg
section READ6
variable {T : Nat → Nat} {E t : Nat} {c0 m0 : Hp} {D D2 : Sp} {p s x a : Nat} {c m : Hp}
theorem RB.kd (h : RB T E t c0 m0 D D2 p s x a c m) (hx : ¬ x = 0) : x ≠ 0 := hx
theorem FCl.takeBox {f : Nat} (h : FCl t c0 f s c) : ∃ r, f7_takeBox c = some (r, c) := by
  obtain ⟨n, hn, e⟩ := h.2.2.2.2.2.2.2.1
  have hkd := kd10 h.2.2.2.2.1.2
  refine ⟨eI (fnd (fun i => c.1 (t + 1 + 1 + 2 * i) 1) (c.1 1 6) n), ?_⟩
  simp only [f7_takeBox, h.2.2.2.2.1.1, Option.bind_some, gd, hkd, if_true, h.name, boxNamed_eq e hn, f7_takeBox_23, h.check, ite_self]
theorem RB.box (h : RB T E t c0 m0 D D p s x a c m) : (∃ j c' m' p' s' x' a', j < D 0 0 ∧ x = 1 ∧ f7_takeBox c = some (nI j, c) ∧ f8_next c = some c' ∧ f12_boxThere m = some (1, m') ∧ m'.1 0 11 = nI j ∧ RB T E t c0 m0 D D p' s' x' a' c' m' ∧ p ≤ s' ∧ f7_step c = some c' ∧ ∃ mm, f12_token m = some mm ∧ m' = wI mm 0 11 (nI j)) ∨ (∃ f c' m' r, f7_takeBox c = some (r, c') ∧ f12_boxThere m = some (0, m') ∧ FCl t c0 f s c' ∧ FRf m0 f s m') := by
  have hkd := kd10 h.2.2.1.2
  have hr := h.2.2.1.1
  have v5 : c.1 t 5 = nI (D 0 0) := h.2.2.2.1.1.1
  have v16 : m.1 0 16 = nI (D 0 0) := h.2.2.2.2.1.1.1
  have w1 := h.2.2.2.2.2.1.1
  rcases h.name with ⟨hx, ha, n1, n2, n3⟩ | ⟨nk, c2, m2, n1, n2, g1, g2, -⟩
  · have sC := boxNamed_eq (v := nI a) v5 w1
    have sM := seekM (p := 5) (fr := 6) (n := D 0 0) (ln := 12) (v := nI a) (m := m) rfl (by omega) (by omega)
    have sM : f12_seek 5 6 (nI (D 0 0)) (nI a) m = _ := sM
    rw [fnd_c (N' := fun i => m.1 5 (6 + i)) (D 0 0) (fun i hi => by rw [(h.2.2.2.1.2.1 i hi).1, (h.2.2.2.2.1.2.1 i hi).1])] at sC
    cases ho : fnd (fun i => m.1 5 (6 + i)) (nI a) (D 0 0) with
    | some j =>
      obtain ⟨hj, -, -⟩ := (fnd_s (D 0 0)).2 j ho
      rw [ho, eI_s] at sC sM
      obtain ⟨c1, m1, p1, s1, x1, a1, e1, e2, k1, hp1, fc1, fm1⟩ := h.next
      have k1' : RB T E t c0 m0 D D p1 s1 x1 a1 c1 (wI m1 0 11 (nI j)) := k1.wM (by unfold rdM; omega) (by omega) (k1.2.2.2.2.1.fr (fun q k n => wI_o (by omega)))
      refine Or.inl ⟨j, c1, wI m1 0 11 (nI j), p1, s1, x1, a1, hj, hx, ?_, e1, ?_, wI_s, k1', hp1, ?_, m1, e2, rfl⟩
      · simp only [f7_takeBox, hr, Option.bind_some, gd, hkd, if_true, n1, sC, m1_ne (show j < 2 ^ 31 by omega), if_false, f7_takeBox_23, f7_check, one_ne]
      · have : (0 : Int32) ≤ nI j := by rw [show (0 : Int32) = nI 0 from rfl]; exact nI_le (by omega) (by omega)
        simp only [f12_boxThere, n2, if_true, v16, n3, sM, Option.bind_some, this, e2]
        rfl
      · simp only [f7_step, h.2.1.1, if_true, e1, Option.bind_some]
    | none =>
      rw [ho, eI_n] at sC sM
      obtain ⟨c2, m2, e3, e4, g1, g2⟩ := h.fail (f := 4) (by omega)
      have e3 : f7_fail 4 c = some c2 := e3
      have e4 : f12_wrong 4 m = some (0, m2) := e4
      refine Or.inr ⟨4, c2, m2, -1, ?_, ?_, g1, g2⟩
      · simp only [f7_takeBox, hr, Option.bind_some, gd, hkd, if_true, n1, sC, f7_takeBox_23, f7_check, e3]
      · have : ¬ (0 : Int32) ≤ -1 := by decide
        simp only [f12_boxThere, n2, if_true, v16, n3, sM, Option.bind_some, this, if_false, e4, gd, bzz]
  · obtain ⟨r, er⟩ := g1.takeBox
    obtain ⟨n, hn, e⟩ := g1.2.2.2.2.2.2.2.1
    refine Or.inr ⟨1, c2, m2, eI (fnd (fun i => c2.1 (t + 1 + 1 + 2 * i) 1) (c.1 1 6) n), ?_, ?_, g1, g2⟩
    · simp only [f7_takeBox, hr, Option.bind_some, gd, hkd, if_true, n1, boxNamed_eq e hn, f7_takeBox_23, g1.check, ite_self]
    · simp only [f12_boxThere, nk, if_false, n2, Option.bind_some, gd, bzz, if_true]
theorem FCl.tooth18 {f : Nat} (h : FCl t c0 f s c) (s0 : Int32) : f7_readTooth_18 s0 c = some c := by
  obtain ⟨r, er⟩ := h.takeBox
  simp only [f7_readTooth_18, h.check, h.step, er, Option.bind_some, lt, h.chkN, h.ne, if_false, f7_readTooth_116]
theorem tooth_line (h : RB T E t c0 m0 D D p s x a c m) (hx : x ≠ 0) : LO T E t c0 m0 s (f7_readTooth c) (f12_toothLine m) := by
  have hkd := kd10 h.2.2.1.2
  have hr := h.2.2.1.1
  have ht := h.2.2.1.2
  have hsp := h.lt hx
  have d1 := h.2.2.2.1
  have d2 := h.2.2.2.2.1
  have w := h.2.2.2.2.2.1
  have v8 : c.1 t 6 = nI (D 0 23) := d1.1.2.1
  have v19 : m.1 0 17 = nI (D 0 23) := d2.1.2.1
  have w1 := w.2.2.2.1
  have w0 := w.1
  by_cases q : D 0 23 = 12
  · obtain ⟨c1, m1, e1, e2, g1, g2⟩ := h.fail (f := 2) (by omega)
    have e1 : f7_fail 2 c = some c1 := e1
    have e2 : f12_wrong 2 m = some (0, m1) := e2
    have z8 : (12 : Int32) ≤ c.1 t 6 := by rw [v8, q]; decide
    have z19 : m.1 0 17 = 12 := by rw [v19, q]; rfl
    have hg := g1.tooth18 0
    refine Or.inr ⟨2, s, c1, m1, ?_, ?_, g1, g2⟩
    · simp only [f7_readTooth, hr, Option.bind_some, gd, hkd, if_true, z8]
      unfold f7_readTooth_18 at hg ⊢
      simp only [f7_check, if_true, e1, Option.bind_some]
      rw [g1.check, Option.bind_some] at hg
      exact hg
    · simp only [f12_toothLine, z19, if_true, e2, Option.bind_some, gd, bzz]
  · have z8 : ¬ (12 : Int32) ≤ c.1 t 6 := by rw [v8, show (12 : Int32) = nI 12 from rfl]; exact nI_ge (by omega) (by omega)
    have z19 : ¬ m.1 0 17 = 12 := by rw [v19, show (12 : Int32) = nI 12 from rfl, nI_eq (by omega) (by omega)]; exact q
    obtain ⟨c1, m1, p1, s1, x1, a1, e1, e2, k1, hp1, fc1, fm1⟩ := h.next
    have es : f7_step c = some c1 := by simp only [f7_step, h.2.1.1, if_true, e1, Option.bind_some]
    have ss1 : s1 ≤ p1 := k1.1.2.2.2.2.2.1
    rcases k1.box with ⟨j, c2, m2, p2, s2, x2, a2, hj, -, n1, n2, n3, n4, k2, hp2, es2, -⟩ | ⟨f, c2, m2, r, n1, n2, g1, g2⟩
    · have ss2 : s2 ≤ p2 := k2.1.2.2.2.2.2.1
      have hr2 := k2.2.2.1.1
      have c14 : c2.1 1 4 = nI s2 := k2.1.2.2.2.1
      have m010 : m2.1 0 10 = nI s2 := k2.1.2.2.2.2.1
      have z6 : (6 + nI j : Int32) = nI (6 + j) := by rw [lit, nI_add]
      have eC : ∀ c3, f7_checkNumber 1 9 c2 = some c3 → f7_readTooth c = if c3.1 3 3 = 0 then ((c3.2.2 3 2).bind fun p13 => gd (decide (kdC p13 = 10)) <| gd (inb (nI j) 6) <| (f0_misses (p13 + 1 + 1 + 2 * ix (nI j)) (c2.1 1 6) c3).bind fun r16 => if r16 = 0 then (f7_readTooth_79 (nI j) (c2.1 1 6) 1 c3) else (f7_readTooth_79 (nI j) (c2.1 1 6) 0 c3)) else (f7_readTooth_116 c3) := by
        intro c3 e3
        simp only [f7_readTooth, f7_readTooth_18, hr, Option.bind_some, gd, hkd, if_true, z8, if_false, f7_check, one_ne, es, n1, es2, lt, e3]
      have eM : f12_toothLine m = (f12_number 1 9 m2).bind fun (r8, h9) => if r8 = 0 then (some ((0 : Int32), h9)) else (gd (inb (nI (6 + j)) 12) <| (f12_isOf (h9.1 9 (ix (nI (6 + j)))) (h9.1 0 11)).bind fun r12 => if r12 = 0 then (gd (inb (nI (6 + j)) 12) <| gd (inb (nI (6 + j)) 12) <| lt (wI h9 9 (ix (nI (6 + j))) ((h9.1 9 (ix (nI (6 + j)))) ||| (1 <<< ((h9.1 0 11) &&& 31)))) fun h16 => lt (wI h16 0 17 ((h16.1 0 17) + 1)) fun h17 => some ((1 : Int32), h17)) else (lt (wI h9 0 10 (nI s2)) fun h18 => (f12_wrong 3 h18).bind fun (r19, h20) => gd (bz r19) <| some (r19, h20))) := by
        simp only [f12_toothLine, z19, if_false, e2, Option.bind_some, n3, one_ne, n4, z6, m010, lt]
      rcases k2.num (lo := 1) (hi := 9) (by omega) (by omega) with ⟨v, c3, m3, p3, s3, x3, a3, hv1, hv, y1, y2, y3, k3, hp3, fc3, fm3, y4, y5⟩ | ⟨f, c3, m3, r, y1, yc, y2, g1, g2⟩
      · have y1 : f7_takeNumber 1 9 c2 = some (nI v, c3) := y1
        have y2 : f12_number 1 9 m2 = some (1, m3) := y2
        have y4 : f7_checkNumber 1 9 c2 = some c2 := y4
        have f2 := k2.2.1.1
        obtain ⟨b1, b2, b3, b4, b5, b6⟩ := w.2.2.2.2.2.2.2.2.1 j hj
        have bC := k2.2.2.2.1.2.1 j hj
        have c9 : c2.1 (t + 1 + 1 + 2 * j) 9 = nI (D 4 j) := bC.2.2.2.2.2.1
        have m9 : m3.1 9 (6 + j) = nI (D 4 j) := (k3.2.2.2.2.1.2.1 j hj).2.2.2.1
        have hb1 := bit1 (x := D 4 j) (p := v) (by omega) (by omega)
        have eC := eC c2 y4
        rw [y5] at eC
        have eC : f7_readTooth c = if tb (D 4 j) v = true then f7_readTooth_79 (nI j) (nI v) 0 c2 else f7_readTooth_79 (nI j) (nI v) 1 c2 := by
          rw [eC, if_pos f2]
          simp only [hr2, Option.bind_some, gd, hkd, if_true, inb_t (show j < 6 by omega) (by omega), ix_nI (show j < 2 ^ 31 by omega), f0_misses_eq, c9, hb1]
          by_cases qq : tb (D 4 j) v = true
          · rw [if_pos qq, if_pos qq, if_neg (by decide)]
          · rw [if_neg qq, if_neg qq, if_pos rfl]
        rw [eC, eM]
        by_cases qq : tb (D 4 j) v = true
        · obtain ⟨c4, m4, e3, e4, g1, g2⟩ := k2.fail (f := 3) (by omega)
          have e3 : f7_fail 3 c2 = some c4 := e3
          have hr4 := g1.2.2.2.2.1.1
          have g1' : ∀ u, FCl t c0 3 s2 (wI c4 (t + 1 + 1 + 2 * j) 9 u) := fun u => g1.w (by omega) (fun i _ _ => by omega) (by omega)
          have g1'' : ∀ u u', FCl t c0 3 s2 (wI (wI c4 (t + 1 + 1 + 2 * j) 9 u) t 6 u') := fun u u' => (g1' u).w (by omega) (fun i _ _ => by omega) (by omega)
          refine Or.inr ⟨3, s2, wI (wI c4 (t + 1 + 1 + 2 * j) 9 (c4.1 (t + 1 + 1 + 2 * j) 9 ||| 1 <<< (nI v &&& 31))) t 6 ((wI c4 (t + 1 + 1 + 2 * j) 9 (c4.1 (t + 1 + 1 + 2 * j) 9 ||| 1 <<< (nI v &&& 31))).1 t 6 + 1), wI (wI (wI m3 0 10 (nI s2)) 0 4 3) 0 5 (nI s2), ?_, ?_, g1'' _ _, ?_⟩
          · rw [if_pos qq]
            simp only [f7_readTooth_79, f7_check, if_true, e3, Option.bind_some, hr4, gd, hkd, inb_t (show j < 6 by omega) (by omega), ix_nI (show j < 2 ^ 31 by omega), lt, wI_r, f7_readTooth_116, (g1'' _ _).step]
          · have u10 : (wI (wI m3 0 10 (nI s2)) 0 4 3).1 0 10 = nI s2 := (wI_o (by omega)).trans wI_s
            simp only [y2, Option.bind_some, one_ne, if_false, gd, inb_t (show 6 + j < 12 by omega) (by omega), ix_nI (show 6 + j < 2 ^ 31 by omega), if_true, isOf_eq, m9, y3, hb1, qq, lt, f12_wrong, u10, bzz]
          · refine ⟨(wI_o (by omega)).trans wI_s, wI_s, ?_⟩
            exact ((k3.2.2.2.2.2.2.2.2.w (by unfold rdM; omega)).w (by unfold rdM; omega)).w (by unfold rdM; omega)
        · have qf : tb (D 4 j) v = false := by revert qq; cases tb (D 4 j) v <;> simp
          have hb9 := bset9 (D 4 j / 2) (by omega) (v - 1) (by omega)
          rw [show 2 * (D 4 j / 2) = D 4 j by omega, show v - 1 + 1 = v by omega] at hb9
          obtain ⟨o1, o2, o3⟩ := hb9 qf
          obtain ⟨X, eX⟩ : ∃ X, X = D 4 j + 2 ^ v := ⟨_, rfl⟩
          rw [← eX] at o1 o2 o3
          have eD : ∀ a b, ¬ (a = 4 ∨ a = 5 ∨ a = 0 ∧ (b = 2 ∨ b = 23)) → up2 (up2 D 4 j X) 0 23 (D 0 23 + 1) a b = D a b := fun a b n => by rw [up2_of (by omega), up2_of (by omega)]
          have eD4 : ∀ i, up2 (up2 D 4 j X) 0 23 (D 0 23 + 1) 4 i = if i = j then X else D 4 i := fun i => by
            rw [up2_of (by omega)]
            by_cases z : i = j
            · rw [if_pos z, z, up2_s]
            · rw [if_neg z, up2_of (by omega)]
          have eD5 : ∀ i, up2 (up2 D 4 j X) 0 23 (D 0 23 + 1) 5 i = D 5 i := fun i => by rw [up2_of (by omega), up2_of (by omega)]
          have eD2 : up2 (up2 D 4 j X) 0 23 (D 0 23 + 1) 0 2 = D 0 2 := by rw [up2_of (by omega), up2_of (by omega)]
          have eD23 : up2 (up2 D 4 j X) 0 23 (D 0 23 + 1) 0 23 = D 0 23 + 1 := up2_s
          generalize up2 (up2 D 4 j X) 0 23 (D 0 23 + 1) = D' at eD eD4 eD5 eD2 eD23
          have wD : wfD D' := w.upB eD (by omega) (by rw [eD2]; exact w.2.2.1) (fun i hi => by
            rw [eD4, eD5]
            obtain ⟨-, -, t1, t2, t3, -⟩ := w.2.2.2.2.2.2.2.2.1 i hi
            refine ⟨?_, t2, t3⟩
            by_cases z : i = j
            · rw [if_pos z]; exact ⟨o2, o3⟩
            · rw [if_neg z]; exact t1)
          obtain ⟨cw, ecw⟩ : ∃ cw, cw = wI (wI c2 (t + 1 + 1 + 2 * j) 9 (nI X)) t 6 (nI (D 0 23 + 1)) := ⟨_, rfl⟩
          have dC' : drC D' t cw := k2.2.2.2.1.upB w0 eD (fun q k _ _ u1 u2 => by
              have := u2 j (by omega)
              rw [ecw, wI_o (by omega), wI_o (by omega)]) (by rw [eD23, ecw, wI_s]) (by rw [eD2, ecw, wI_o (by omega), wI_o (by omega)]; exact k2.2.2.2.1.1.2.2.1) (fun i hi => by
              have bC := k2.2.2.2.1.2.1 i hi
              rw [eD4, eD5, ecw, wI_o (by omega), wI_o (by omega), wI_o (by omega)]
              refine ⟨bC.2.2.2.1, ?_⟩
              by_cases z : i = j
              · rw [if_pos z, z, wI_s]
              · rw [if_neg z, wI_o (by omega)]; exact bC.2.2.2.2.2.1)
          have kw : RB T E t c0 m0 D' D p2 s2 x2 a2 cw m2 := by
            obtain ⟨q1, ⟨f1, f2, f3, f4⟩, q3, -, dm, -, z, g1, g2⟩ := k2
            rw [ecw] at dC' ⊢
            exact ⟨q1.mv (fun _ => (wI_o (by omega)).trans (wI_o (by omega))) (fun _ => (wI_o (by omega)).trans (wI_o (by omega))) (fun _ _ _ => rfl) (fun _ => rfl) (fun _ => rfl), ⟨((wI_o (by omega)).trans (wI_o (by omega))).trans f1, ((wI_o (by omega)).trans (wI_o (by omega))).trans f2, f3, f4⟩, q3, dC', dm, wD, (z.w (fun i _ _ => by omega)).w (fun i _ _ => by omega), (g1.w (by omega)).w (by omega), g2⟩
          rcases kw.num (lo := 1) (hi := 9) (by omega) (by omega) with ⟨v', c5, m5, p5, s5, x5, a5, -, -, t1, t2, t3, k5, hp5, fc5, fm5, t4, t5⟩ | ⟨f, c5, m5, r, t1, tc, t2, g1, g2⟩
          · have t1 : f7_takeNumber 1 9 cw = some (nI v', c5) := t1
            have t2 : f12_number 1 9 m2 = some (1, m5) := t2
            have t4 : f7_checkNumber 1 9 cw = some cw := t4
            have em : m5 = m3 := by rw [y2] at t2; exact (Prod.mk.inj (Option.some.inj t2)).2.symm
            subst em
            have fw := kw.2.1.1
            simp only [f7_takeNumber, lt, t4, Option.bind_some, fw, if_true] at t1
            obtain ⟨h4, en, e5⟩ := Option.bind_eq_some_iff.mp t1
            have : h4 = c5 := (Prod.mk.inj (Option.some.inj e5)).2
            subst this
            have v17 : m5.1 0 17 = nI (D 0 23) := k5.2.2.2.2.1.1.2.1
            have v17' : (wI m5 9 (6 + j) (nI X)).1 0 17 = nI (D 0 23) := (wI_o (by omega)).trans v17
            have dM' : drM D' (wI (wI m5 9 (6 + j) (nI X)) 0 17 (nI (D 0 23 + 1))) := k5.2.2.2.2.1.upB w0 eD (fun q k n1 n2 => by rw [wI_o (by omega), wI_o (by omega)]) (by rw [eD23, wI_s]) (by rw [eD2, wI_o (by omega), wI_o (by omega)]; exact k5.2.2.2.2.1.1.2.2.1) (fun i hi => by
                have bM := k5.2.2.2.2.1.2.1 i hi
                rw [eD4, eD5]
                refine ⟨?_, by rw [wI_o (by omega), wI_o (by omega)]; exact bM.2.2.2.2.1⟩
                rw [wI_o (by omega)]
                by_cases z : i = j
                · rw [if_pos z, z, wI_s]
                · rw [if_neg z, wI_o (by omega)]; exact bM.2.2.2.1) (fun k hk => ⟨by rw [wI_o (by omega), wI_o (by omega)], by rw [wI_o (by omega), wI_o (by omega)]⟩)
            refine Or.inl ⟨D', p5, s5, x5, a5, h4, wI (wI m5 9 (6 + j) (nI X)) 0 17 (nI (D 0 23 + 1)), ?_, ?_, ?_, by omega⟩
            · have hs : f7_step cw = some h4 := by simp only [f7_step, fw, if_true, en, Option.bind_some]
              have u6 : (wI c2 (t + 1 + 1 + 2 * j) 9 (nI X)).1 t 6 = nI (D 0 23) := (wI_o (by omega)).trans k2.2.2.2.1.1.2.1
              rw [if_neg qq]
              simp only [f7_readTooth_79, f7_check, one_ne, if_false, Option.bind_some, hr2, gd, hkd, if_true, inb_t (show j < 6 by omega) (by omega), ix_nI (show j < 2 ^ 31 by omega), c9, o1, lt, wI_r, u6, nI_1, ← ecw, f7_readTooth_116, hs]
            · simp only [y2, Option.bind_some, one_ne, if_false, gd, inb_t (show 6 + j < 12 by omega) (by omega), ix_nI (show 6 + j < 2 ^ 31 by omega), if_true, isOf_eq, m9, y3, hb1, qf, Bool.false_eq_true, lt, o1, v17', nI_1]
            · obtain ⟨q1, ⟨f1, f2, f3, f4⟩, q3, dc, -, wd, z, g1, g2⟩ := k5
              exact ⟨q1.mv (fun _ => rfl) (fun _ => rfl) (fun k _ _ => (wI_o (by omega)).trans (wI_o (by omega))) (fun _ => (wI_o (by omega)).trans (wI_o (by omega))) (fun _ => (wI_o (by omega)).trans (wI_o (by omega))), ⟨f1, f2, ((wI_o (by omega)).trans (wI_o (by omega))).trans f3, ((wI_o (by omega)).trans (wI_o (by omega))).trans f4⟩, q3, dc, dM', wd, z, g1, (g2.w (by unfold rdM; omega)).w (by unfold rdM; omega)⟩
          · have t2 : f12_number 1 9 m2 = some (0, m5) := t2
            rw [y2] at t2
            have := (Prod.mk.inj (Option.some.inj t2)).1
            exact absurd this (by decide)
      · have y2 : f12_number 1 9 m2 = some (0, m3) := y2
        have yc : f7_checkNumber 1 9 c2 = some c3 := yc
        refine Or.inr ⟨f, s2, c3, m3, ?_, ?_, g1, g2⟩
        · rw [eC c3 yc, if_neg g1.ne]
          simp only [f7_readTooth_116, g1.step, Option.bind_some]
        · rw [eM]
          simp only [y2, Option.bind_some, if_true]
    · refine Or.inr ⟨f, s1, c2, m2, ?_, ?_, g1, g2⟩
      · simp only [f7_readTooth, f7_readTooth_18, hr, Option.bind_some, gd, hkd, if_true, z8, if_false, f7_check, one_ne, es, n1, g1.step, lt, g1.chkN, g1.ne, f7_readTooth_116]
      · simp only [f12_toothLine, z19, if_false, e2, Option.bind_some, n2, if_true]
end READ6
