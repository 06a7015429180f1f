/-! Reading a text: an operand of a law; a law's end. -/
section LAWS7
variable {T : Nat → Nat} {E t : Nat} {c0 m0 : Hp} {D D2 : Sp} {p s x a l f : Nat} {c m : Hp} {st H : List Nat} {wn may : Nat}
theorem open_all (h : LW T E t c0 m0 l f D st H 1 may p s x a c m) (hx : x = 3 ∧ a = 21) : JO T E t c0 m0 l f p s x a c (f4_takeOperand c) (f12_leafRead m) := by
  obtain ⟨m10, mfr, tk⟩ := h.1.m10
  obtain ⟨q1, q2⟩ := sgn_eq tk (b := 21) (by omega) (by omega)
  have q1 : f8_isSign 21 c = _ := q1
  have q2 : f12_isSign 40 m = _ := q2
  rw [if_pos hx] at q1 q2
  obtain ⟨hc, hH, ⟨xb, x512, x46, hB⟩, h44, h43, hw, h14, h15⟩ := h
  have kk := hc
  obtain ⟨h1, h2, h3, ⟨c1, c2, c3, c4⟩, ⟨m1, m2, m3, m4, m5⟩, ⟨s1, s2, s3⟩, b, hk⟩ := hc
  have hlen := on_len st
  have b1 := b.1
  have b2 := b.2.1
  by_cases z : o21 st = 8
  · obtain ⟨m2', w1, w2⟩ := wrong_eq (fc := 2) mfr m10
    have w1 : f12_wrong 2 m = some (0, m2') := w1
    have g1 : c.1 4 5 = 8 := by rw [c2, z]; rfl
    have g2 : m.1 0 42 = 8 := by rw [m3, z]; rfl
    refine Or.inr ⟨2, m2', by omega, ?_, ?_, w2⟩
    · simp only [f4_takeOperand, q1, Option.bind_some, one_ne, if_false, f4_takeOpen, g1, if_true]; rfl
    · simp only [f12_leafRead, q2, Option.bind_some, one_ne, if_false, g2, if_true, w1, gd, bzz]
  · have g : ¬ nI (o21 st) = 8 := by rw [lit, nI_eq (by omega) (by omega)]; exact z
    obtain ⟨t1, t2⟩ := bitZ xb x512 (o21 st + 1) (by omega)
    have hl2 : (21 :: st).length = st.length + 1 := List.length_cons ..
    have no1 : o21 (21 :: st) = o21 st + 1 := by show (if 21 = 21 then 1 else 0) + o21 st = _; rw [if_pos rfl]; omega
    have nbk1 : nbk (21 :: st) = nbk st := by show (if 21 = 21 then 0 else 1) + nbk st = _; rw [if_pos rfl, Nat.zero_add]
    have nbi1 : nbi (21 :: st) = nbi st := by show (if 21 = 21 ∨ 21 = 10 then 0 else 1) + nbi st = _; rw [if_pos (Or.inl rfl), Nat.zero_add]
    obtain ⟨C, eC⟩ : ∃ C, C = wI (wI (wI (wI (wI c 5 st.length (nI 21)) 4 3 (nI (st.length + 1))) 4 5 (nI (o21 st + 1))) 4 6 (nI ((xb ||| 2 ^ (o21 st + 1)) - 2 ^ (o21 st + 1)))) 4 8 (nI 1) := ⟨_, rfl⟩
    obtain ⟨M, eM⟩ : ∃ M, M = wI (wI (wI (wI m 0 42 (nI (o21 st + 1))) 20 st.length (nI 0)) 0 40 (nI (st.length + 1))) 0 45 (nI 1) := ⟨_, rfl⟩
    have cc : ∀ q j, ¬ (q = 4 ∧ (j = 3 ∨ j = 5 ∨ j = 6 ∨ j = 8)) → ¬ (q = 5 ∧ j = st.length) → C.1 q j = c.1 q j := fun q j n1 n2 => by
      rw [eC, wI_o (by omega), wI_o (by omega), wI_o (by omega), wI_o (by omega), wI_o (by omega)]
    have mm : ∀ q j, ¬ (q = 0 ∧ (j = 42 ∨ j = 40 ∨ j = 45)) → ¬ (q = 20 ∧ j = st.length) → M.1 q j = m.1 q j := fun q j n1 n2 => by
      rw [eM, wI_o (by omega), wI_o (by omega), wI_o (by omega), wI_o (by omega)]
    refine Or.inl ⟨D, 21 :: st, H, 1, 1, C, M, ?_, ?_, ⟨kk.upd (fun q j n1 n2 => cc q j (by omega) (by omega)) (by rw [eC]; rfl) (fun q j n1 n2 n3 => mm q j (by omega) (by omega)) (by rw [eM]; rfl) ⟨?_, ?_, ?_, ?_⟩ ⟨?_, ?_, ?_, ?_, ?_⟩ ⟨?_, s1.fr (fun i hi => cc _ _ (by omega) (by omega))⟩ ⟨?_, s2.fr (fun i hi => mm _ _ (by omega) (by omega))⟩ (s3.fr (fun i hi => mm _ _ (by omega) (by omega))) ⟨by rw [nbk1]; exact b1, by omega, by omega, by omega⟩ (fun k1 hk1 => ?_), by rw [nbi1]; exact hH, ⟨_, t2, ?_, hB.opn (fun j hj => ?_) ?_⟩, ?_, ?_, fun _ _ => rfl, ?_, ?_⟩⟩
    · have u1 : (wI (wI c 5 st.length (nI 21)) 4 3 (nI (st.length + 1))).1 4 5 = nI (o21 st) := by rw [wI_o (by omega), wI_o (by omega)]; exact c2
      have u2 : (wI (wI (wI c 5 st.length (nI 21)) 4 3 (nI (st.length + 1))) 4 5 (nI (o21 st + 1))).1 4 6 = nI xb := by rw [wI_o (by omega), wI_o (by omega), wI_o (by omega)]; exact x46
      have ea := await_eq (k := nI 21) c1 (show st.length < 72 by omega)
      have ea : f4_await 21 c = _ := ea
      simp only [f4_takeOperand, q1, Option.bind_some, one_ne, if_false, f4_takeOpen, c2, g, ea, lt, u1, nI_1, u2, wI_s, t1]
      rw [eC]; rfl
    · have u1 : (wI m 0 42 (nI (o21 st + 1))).1 0 40 = nI st.length := (wI_o (by omega)).trans m1
      have ea := waits_eq (k := nI 0) u1 (show st.length < 96 by omega)
      have ea : f12_waitsFor 0 (wI m 0 42 (nI (o21 st + 1))) = _ := ea
      simp only [f12_leafRead, q2, Option.bind_some, one_ne, if_false, m3, g, lt, nI_1, ea]
      rw [eM]; rfl
    · rw [eC, hl2, wI_o (by omega), wI_o (by omega), wI_o (by omega), wI_s]
    · rw [eC, no1, wI_o (by omega), wI_o (by omega), wI_s]
    · rw [cc _ _ (by omega) (by omega)]; exact c3
    · rw [eC, wI_s]
    · rw [eM, hl2, wI_o (by omega), wI_s]
    · rw [mm _ _ (by omega) (by omega)]; exact m2
    · rw [eM, no1, wI_o (by omega), wI_o (by omega), wI_o (by omega), wI_s]
    · rw [mm _ _ (by omega) (by omega)]; exact m4
    · rw [eM, wI_s]
    · rw [eC, wI_o (by omega), wI_o (by omega), wI_o (by omega), wI_o (by omega), wI_s]; rfl
    · rw [eM, wI_o (by omega), wI_o (by omega), wI_s]; rfl
    · rcases List.mem_cons.mp hk1 with y | y
      · rw [y]; omega
      · exact hk k1 y
    · rw [eC, wI_o (by omega), wI_s]
    · rw [(bitT xb x512 (o21 st + 1) (by omega) j (by omega)).2, decide_eq_false (by omega)]; rfl
    · rw [(bitT xb x512 (o21 st + 1) (by omega) (o21 st + 1) (by omega)).2, decide_eq_true rfl]; rfl
    · rw [cc _ _ (by omega) (by omega), nbk1]; exact h44
    · rw [mm _ _ (by omega) (by omega), nbk1]; exact h43
    · rw [mm _ _ (by omega) (by omega)]; exact h14
    · rw [mm _ _ (by omega) (by omega)]; exact h15
theorem leaf_all (h : LW T E t c0 m0 l f D st H 1 may p s x a c m) : JO T E t c0 m0 l f p s x a c (f4_takeOperand_40 c) (f12_leafRead_86 m) := by
  obtain ⟨m10, mfr, tk⟩ := h.1.m10
  have hr := h.1.2.1
  have hkd := kd5 h.1.1.2.2.1.2
  have h44 := h.2.2.2.1
  have h43 := h.2.2.2.2.1
  have b1 : D 0 3 + nbk st ≤ 64 := h.1.2.2.2.2.2.2.1.1
  have bad : ∀ fc : Nat, ∃ m2, f12_wrong (nI fc) m = some (0, m2) ∧ FRf m0 fc s m2 := fun fc => wrong_eq mfr m10
  rcases opk_eq tk with ⟨kk, k1, k7, eo, en⟩ | ⟨x2, eo, en, e8⟩ | ⟨eo, en, e8⟩
  · -- a name
    have kn1 : ¬ nI kk = (-1 : Int32) := m1_ne (by omega)
    have kn0 : ¬ nI kk = 0 := by rw [show (0 : Int32) = nI 0 from rfl, nI_eq (by omega) (by omega)]; omega
    have p0 : (0 : Int32) ≤ nI (kk - 1) := by rw [show (0 : Int32) = nI 0 from rfl]; exact nI_le (by omega) (by omega)
    have p0' : ¬ nI (kk - 1) < 0 := nI_pos (by omega)
    by_cases z : D 0 3 + nbk st = 64
    · obtain ⟨m2, w1, w2⟩ := bad 2
      have w1 : f12_wrong 2 m = some (0, m2) := w1
      have g1 : c.1 4 4 = 64 := by rw [h44, z]; rfl
      have g2 : m.1 0 43 = 64 := by rw [h43, z]; rfl
      refine Or.inr ⟨2, m2, by omega, ?_, ?_, w2⟩
      · simp only [f4_takeOperand_40, f4_takeOperand_41, if_true, eo, Option.bind_some, f4_takeOperand_55, kn1, if_false, g1]; rfl
      · simp only [f12_leafRead_86, en, Option.bind_some, p0, if_true, f12_leafRead_109, f12_leafRead_129, f12_isCounted, g2, w1, gd, bzz]
    · have g : ¬ nI (D 0 3 + nbk st) = 64 := by rw [lit, nI_eq (by omega) (by omega)]; exact z
      obtain ⟨D', H', c1, m1, e1, e2, k'⟩ := leaf_put (kk := kk) (v := 0) (u := kk - 1) h (by omega) k7 (fun z => by omega) (fun _ => rfl)
      have e1 : f5_put (t + 14) (nI kk) 0 _ = _ := e1
      have mk1 : nI (mk kk) = 1 := by
        have : mk kk = 1 := by unfold mk; rw [if_neg (by omega), if_pos (by omega)]
        rw [this]; rfl
      rw [mk1] at e2
      refine Or.inl ⟨D', st, H', 0, may, wI c1 4 7 0, wI m1 0 44 0, ?_, ?_, k'⟩
      · simp only [f4_takeOperand_40, f4_takeOperand_41, if_true, eo, Option.bind_some, f4_takeOperand_55, kn1, if_false, h44, g, kn0, f4_takeOperand_91, lt, nI_1, wI_r, hr, gd, hkd, f4_takeOperand_134, e1]
      · simp only [f12_leafRead_86, en, Option.bind_some, p0, if_true, f12_leafRead_109, f12_leafRead_129, f12_isCounted, h43, g, if_false, lt, nI_1, one_ne, p0', f12_leafRead_148, f12_leafRead_160, e2]
  · -- a number
    subst x2
    obtain ⟨-, -, ha, t4, bb, t5, t6, t7⟩ := tk
    have n0 : ¬ (0 : Int32) = -1 := by decide
    have n1 : ¬ (0 : Int32) ≤ -1 := by decide
    have n2 : (-1 : Int32) < 0 := by decide
    by_cases z : D 0 3 + nbk st = 64
    · obtain ⟨m2, w1, w2⟩ := bad 2
      have w1 : f12_wrong 2 m = some (0, m2) := w1
      have g1 : c.1 4 4 = 64 := by rw [h44, z]; rfl
      have g2 : m.1 0 43 = 64 := by rw [h43, z]; rfl
      refine Or.inr ⟨2, m2, by omega, ?_, ?_, w2⟩
      · simp only [f4_takeOperand_40, f4_takeOperand_41, if_true, eo, Option.bind_some, f4_takeOperand_55, n0, if_false, g1]; rfl
      · simp only [f12_leafRead_86, en, Option.bind_some, n1, if_false, e8, if_true, f12_leafRead_109, f12_leafRead_129, f12_isCounted, g2, w1, gd, bzz, ite_self]
    · have g : ¬ nI (D 0 3 + nbk st) = 64 := by rw [lit, nI_eq (by omega) (by omega)]; exact z
      by_cases z2 : a ≤ 9999
      · have hb : bb = a := by omega
        subst hb
        obtain ⟨D', H', c1, m1, e1, e2, k'⟩ := leaf_put (kk := 0) (v := bb) (u := bb) h (by omega) (by omega) (fun _ => ⟨rfl, z2⟩) (fun z => by omega)
        have e1 : f5_put (t + 14) 0 (nI bb) _ = _ := e1
        have e2 : f12_grown 0 (nI bb) 0 _ = _ := e2
        have g9 : nI bb ≤ 9999 := by rw [lit]; exact nI_le z2 (by omega)
        have t4' : (wI c 4 4 (nI (D 0 3 + nbk st + 1))).1 1 6 = nI bb := (wI_o (by omega)).trans t4
        have t5' : (wI m 0 43 (nI (D 0 3 + nbk st + 1))).1 0 9 = nI bb := (wI_o (by omega)).trans t5
        refine Or.inl ⟨D', st, H', 0, may, wI c1 4 7 0, wI m1 0 44 0, ?_, ?_, k'⟩
        · simp only [f4_takeOperand_40, f4_takeOperand_41, if_true, eo, Option.bind_some, f4_takeOperand_55, n0, if_false, h44, g, t4, g9, f4_takeOperand_91, lt, nI_1, wI_r, hr, gd, hkd, t4', f4_takeOperand_134, e1]
        · simp only [f12_leafRead_86, en, Option.bind_some, n1, if_false, e8, if_true, f12_leafRead_109, t5, g9, f12_leafRead_129, f12_isCounted, h43, g, lt, nI_1, one_ne, n2, f12_leafRead_148, t5', f12_leafRead_160, e2]
      · obtain ⟨m2, w1, w2⟩ := bad 2
        have w1 : f12_wrong 2 m = some (0, m2) := w1
        have g9 : ¬ nI a ≤ 9999 := by rw [lit]; exact nI_ge (by omega) (by omega)
        have g9' : ¬ nI bb ≤ 9999 := by rw [lit]; exact nI_ge (by omega) (by omega)
        refine Or.inr ⟨2, m2, by omega, ?_, ?_, w2⟩
        · simp only [f4_takeOperand_40, f4_takeOperand_41, if_true, eo, Option.bind_some, f4_takeOperand_55, n0, if_false, h44, g, t4, g9]; rfl
        · simp only [f12_leafRead_86, en, Option.bind_some, n1, if_false, e8, if_true, f12_leafRead_109, t5, g9', w1, gd, bzz]
  · obtain ⟨m2, w1, w2⟩ := bad 1
    have w1 : f12_wrong 1 m = some (0, m2) := w1
    have n1 : ¬ (0 : Int32) ≤ -1 := by decide
    refine Or.inr ⟨1, m2, by omega, ?_, ?_, w2⟩
    · simp only [f4_takeOperand_40, f4_takeOperand_41, if_true, eo, Option.bind_some, f4_takeOperand_55]; rfl
    · simp only [f12_leafRead_86, en, Option.bind_some, n1, if_false, e8, w1, gd, bzz, if_true]
theorem operand_all (h : LW T E t c0 m0 l f D st H 1 may p s x a c m) : JO T E t c0 m0 l f p s x a c (f4_takeOperand c) (f12_leafRead m) := by
  by_cases hx : x = 3 ∧ a = 21
  · exact open_all h hx
  · obtain ⟨m10, mfr, tk⟩ := h.1.m10
    obtain ⟨q1, q2⟩ := sgn_eq tk (b := 21) (by omega) (by omega)
    have q1 : f8_isSign 21 c = _ := q1
    have q2 : f12_isSign 40 m = _ := q2
    rw [if_neg hx] at q1 q2
    obtain ⟨p1, p2⟩ := word_eq tk (w0 := 12) (by omega)
    have p1 : f8_isWord 486146048 c = _ := p1
    have p2 : f12_isKey 12 m = _ := p2
    have c48 : c.1 4 8 = nI may := h.1.2.2.2.1.2.2.2
    have m45 : m.1 0 45 = nI may := h.1.2.2.2.2.1.2.2.2.2
    have hm : may ≤ 1 := h.1.2.2.2.2.2.2.1.2.2.2
    have em : (nI may = 0) = (may = 0) := by rw [show (0 : Int32) = nI 0 from rfl]; exact propext (nI_eq (by omega) (by omega))
    by_cases cs : (x = 1 ∧ a = langN 12) ∧ may = 1
    · rw [if_pos cs.1] at p1 p2
      have nm : ¬ may = 0 := by omega
      obtain ⟨hc, hH, ⟨xb, x512, x46, hB⟩, h44, h43, hw, h14, h15⟩ := h
      have kk := hc
      obtain ⟨h1, h2, h3, ⟨c1, c2, c3, c4⟩, ⟨m1, m2, m3, m4, m5⟩, ⟨s1, s2, s3⟩, b, hk⟩ := hc
      have hlen := on_len st
      have b1 := b.1
      have b2 := b.2.1
      have n10 : ¬ (10 : Int32) = -1 ∧ ¬ (10 : Int32) = 0 := by decide
      by_cases z : D 0 3 + nbk st = 64
      · obtain ⟨m2', w1, w2⟩ := wrong_eq (fc := 2) mfr m10
        have w1 : f12_wrong 2 m = some (0, m2') := w1
        have g1 : c.1 4 4 = 64 := by rw [h44, z]; rfl
        have g2 : m.1 0 43 = 64 := by rw [h43, z]; rfl
        refine Or.inr ⟨2, m2', by omega, ?_, ?_, w2⟩
        · simp only [f4_takeOperand, q1, Option.bind_some, if_true, c48, em, nm, if_false, p1, one_ne, f4_takeOperand_41, f4_takeOperand_55, n10, g1]; rfl
        · simp only [f12_leafRead, q2, Option.bind_some, if_true, p2, one_ne, if_false, m45, em, nm, f12_isCounted, g2, w1, gd, bzz]
      · have g : ¬ nI (D 0 3 + nbk st) = 64 := by rw [lit, nI_eq (by omega) (by omega)]; exact z
        have hl2 : (10 :: st).length = st.length + 1 := List.length_cons ..
        have no1 : o21 (10 :: st) = o21 st := by show (if 10 = 21 then 1 else 0) + o21 st = _; rw [if_neg (by omega), Nat.zero_add]
        have nbk1 : nbk (10 :: st) = 1 + nbk st := by show (if 10 = 21 then 0 else 1) + nbk st = _; rw [if_neg (by omega)]
        have nbi1 : nbi (10 :: st) = nbi st := by show (if 10 = 21 ∨ 10 = 10 then 0 else 1) + nbi st = _; rw [if_pos (Or.inr rfl), Nat.zero_add]
        obtain ⟨C, eC⟩ : ∃ C, C = wI (wI (wI c 4 4 (nI (D 0 3 + nbk st + 1))) 5 st.length (nI 10)) 4 3 (nI (st.length + 1)) := ⟨_, rfl⟩
        obtain ⟨M, eM⟩ : ∃ M, M = wI (wI (wI m 0 43 (nI (D 0 3 + nbk st + 1))) 20 st.length (nI 2)) 0 40 (nI (st.length + 1)) := ⟨_, rfl⟩
        have cc : ∀ q j, ¬ (q = 4 ∧ (j = 3 ∨ j = 4)) → ¬ (q = 5 ∧ j = st.length) → C.1 q j = c.1 q j := fun q j n1 n2 => by
          rw [eC, wI_o (by omega), wI_o (by omega), wI_o (by omega)]
        have mm : ∀ q j, ¬ (q = 0 ∧ (j = 43 ∨ j = 40)) → ¬ (q = 20 ∧ j = st.length) → M.1 q j = m.1 q j := fun q j n1 n2 => by
          rw [eM, wI_o (by omega), wI_o (by omega), wI_o (by omega)]
        have u1 : (wI c 4 4 (nI (D 0 3 + nbk st + 1))).1 4 3 = nI st.length := (wI_o (by omega)).trans c1
        have u2 : (wI m 0 43 (nI (D 0 3 + nbk st + 1))).1 0 40 = nI st.length := (wI_o (by omega)).trans m1
        have ea := await_eq (k := nI 10) u1 (show st.length < 72 by omega)
        have ea : f4_await 10 (wI c 4 4 (nI (D 0 3 + nbk st + 1))) = _ := ea
        have ew := waits_eq (k := nI 2) u2 (show st.length < 96 by omega)
        have ew : f12_waitsFor 2 (wI m 0 43 (nI (D 0 3 + nbk st + 1))) = _ := ew
        refine Or.inl ⟨D, 10 :: st, H, 1, may, C, M, ?_, ?_, ⟨kk.upd (fun q j n1 n2 => cc q j (by omega) (by omega)) (by rw [eC]; rfl) (fun q j n1 n2 n3 => mm q j (by omega) (by omega)) (by rw [eM]; rfl) ⟨?_, ?_, ?_, ?_⟩ ⟨?_, ?_, ?_, ?_, ?_⟩ ⟨?_, s1.fr (fun i hi => cc _ _ (by omega) (by omega))⟩ ⟨?_, s2.fr (fun i hi => mm _ _ (by omega) (by omega))⟩ (s3.fr (fun i hi => mm _ _ (by omega) (by omega))) ⟨by omega, by omega, by omega, by omega⟩ (fun k1 hk1 => ?_), by rw [nbi1]; exact hH, ⟨xb, x512, ?_, BT.jnt (pre := []) hB (fun k hk => by cases hk) (by omega) (fun j hj => rfl) ?_⟩, ?_, ?_, fun _ _ => rfl, ?_, ?_⟩⟩
        · simp only [f4_takeOperand, q1, Option.bind_some, if_true, c48, em, nm, if_false, p1, one_ne, f4_takeOperand_41, f4_takeOperand_55, n10, h44, g, f4_takeOperand_91, lt, nI_1, ea]
          rw [eC]
        · simp only [f12_leafRead, q2, Option.bind_some, if_true, p2, one_ne, if_false, m45, em, nm, f12_isCounted, h43, g, lt, nI_1, ew]
          rw [eM]
        · rw [eC, hl2, wI_s]
        · rw [cc _ _ (by omega) (by omega), no1]; exact c2
        · rw [cc _ _ (by omega) (by omega)]; exact c3
        · rw [cc _ _ (by omega) (by omega)]; exact c4
        · rw [eM, hl2, wI_s]
        · rw [mm _ _ (by omega) (by omega)]; exact m2
        · rw [mm _ _ (by omega) (by omega), no1]; exact m3
        · rw [mm _ _ (by omega) (by omega)]; exact m4
        · rw [mm _ _ (by omega) (by omega)]; exact m5
        · rw [eC, wI_o (by omega), wI_s]; rfl
        · rw [eM, wI_o (by omega), wI_s]; rfl
        · rcases List.mem_cons.mp hk1 with y | y
          · rw [y]; omega
          · exact hk k1 y
        · rw [cc _ _ (by omega) (by omega)]; exact x46
        · rw [hB.1, hw rfl cs.2]; rfl
        · rw [eC, wI_o (by omega), wI_o (by omega), wI_s, nbk1, show D 0 3 + (1 + nbk st) = D 0 3 + nbk st + 1 by omega]
        · rw [eM, wI_o (by omega), wI_o (by omega), wI_s, nbk1, show D 0 3 + (1 + nbk st) = D 0 3 + nbk st + 1 by omega]
        · rw [mm _ _ (by omega) (by omega)]; exact h14
        · rw [mm _ _ (by omega) (by omega)]; exact h15
    · have eC : f4_takeOperand c = f4_takeOperand_40 c := by
        simp only [f4_takeOperand, q1, Option.bind_some, if_true, c48, em, p1]
        by_cases z : may = 0
        · rw [if_pos z]
        · rw [if_neg z, if_neg (fun y => cs ⟨y, by omega⟩), if_pos rfl]
      have eM : f12_leafRead m = f12_leafRead_86 m := by
        simp only [f12_leafRead, q2, Option.bind_some, if_true, p2, m45, em]
        by_cases z : x = 1 ∧ a = langN 12
        · rw [if_pos z, if_neg (by decide), if_pos (by omega)]
        · rw [if_neg z, if_pos rfl]
      rw [eC, eM]
      exact leaf_all h
end LAWS7
