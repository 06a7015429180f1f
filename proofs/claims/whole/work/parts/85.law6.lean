/-! Reading a text: a law token by token. -/
section LAWS8
variable {T : Nat → Nat} {E t : Nat} {c0 m0 : Hp} {D D2 : Sp} {p s x a l f : Nat} {c m : Hp} {st H : List Nat} {wn may : Nat}
/-- what reading a law's sum comes to -/
def LQ (T : Nat → Nat) (E t : Nat) (c0 m0 : Hp) (l f s0 : Nat) (x2 x3 : Int32) (rc rm : Option (Int32 × Hp)) : Prop := (∃ D st H may p s x a c m, rc = f4_readInto_86 x2 x3 c ∧ rm = f12_sumRead_74 m ∧ LW T E t c0 m0 l f D st H 0 may p s x a c m ∧ o21 st = 0 ∧ s0 ≤ s) ∨ (∃ fc s c m D p x a m2, (1 ≤ fc ∧ fc ≤ 2) ∧ rc = some (nI fc, c) ∧ rm = some (0, m) ∧ FRf m0 fc s m ∧ RB T E t c0 m0 D D p s x a c m2)
theorem end_ref (h : LW T E t c0 m0 l f D st H wn may p s 0 a c m) : ∃ m', f12_sumRead_25 m = some (0, m') ∧ FRf m0 1 s m' ∧ f12_sumRead_25_s m = some (.inr (0, m')) := by
  obtain ⟨m10, mfr, tk⟩ := h.1.m10
  obtain ⟨m', w1, w2⟩ := wrong_eq (fc := 1) mfr m10
  have w1 : f12_wrong 1 m = some (0, m') := w1
  have s23 : f12_isSign 59 m = _ := (sgn_eq tk (b := 23) (by omega) (by omega)).2
  have s22 : f12_isSign 41 m = _ := (sgn_eq tk (b := 22) (by omega) (by omega)).2
  have s21 : f12_isSign 40 m = _ := (sgn_eq tk (b := 21) (by omega) (by omega)).2
  have k12 : f12_isKey 12 m = _ := (word_eq tk (w0 := 12) (by omega)).2
  rw [if_neg (by omega)] at s23 s22 s21 k12
  have t2 : m.1 0 8 = 0 := tk.2
  have n1 : ¬ (0 : Int32) = 1 := by decide
  have n3 : ¬ (0 : Int32) = 3 := by decide
  have n0 : ¬ (0 : Int32) ≤ -1 := by decide
  have e47 : f12_signs_47 m = f12_signs_147 0 m := by
    rcases jk tk with ⟨k, k8, k21, -, ej, -⟩ | ⟨-, e⟩
    · exfalso
      have c5 : c.1 1 5 = 0 := tk.1
      have n3' : ¬ (0 : Int32) = 3 := by decide
      simp only [f4_jointKind, f8_isWord, f8_isWord_20, c5, n1, if_false, Option.bind_some, if_true, n3', f4_jointKind_63] at ej
      exact absurd (Option.some.inj ej).symm (m1_ne (by omega))
    · exact e
  have e : f12_sumRead_25_s m = some (.inr (0, m')) := by
    by_cases z : m.1 0 44 = 0
    · simp only [f12_sumRead_25_s, s23, Option.bind_some, if_true, f12_sumRead_48, z, f12_signs, s22, e47, f12_signs_147, w1, gd, bzz]
    · simp only [f12_sumRead_25_s, s23, Option.bind_some, if_true, f12_sumRead_48, z, if_false, f12_leafRead, s21, k12, f12_leafRead_86, f12_nameMet, t2, n1, f12_nameMet_27, n0, n3, w1, gd, bzz]
  refine ⟨m', ?_, w2, e⟩
  unfold f12_sumRead_25
  exact lp_inr (o := some (0, m')) e
theorem law_loop {x2 x3 : Int32} {s0 : Nat} : ∀ (n i : Nat) (D : Sp) (st H : List Nat) (wn may p s x a : Nat) (c m : Hp), i + n = 701 → i ≤ s → s0 ≤ s → LW T E t c0 m0 l f D st H wn may p s x a c m → LQ T E t c0 m0 l f s0 x2 x3 (f4_readInto_52 x2 x3 (nI i) c) (f12_sumRead_25 m)
  | 0, i, D, st, H, wn, may, p, s, x, a, c, m, hn, his, hs0, h => by
    have k := h.1.1.1
    have : E ≤ 700 := k.1.1
    have := k.2.2.2.2.2.1
    have := k.2.2.2.2.2.2.1
    omega
  | n + 1, i, D, st, H, wn, may, p, s, x, a, c, m, hn, his, hs0, h => by
    have k := h.1.1.1
    have hE : E ≤ 700 := k.1.1
    have hsp : s ≤ p := k.2.2.2.2.2.1
    have hpE : p ≤ E := k.2.2.2.2.2.2.1
    have hx0 := k.2.2.2.2.2.2.2.2.2.1
    have hxp := k.2.2.2.2.2.2.2.2.2.2
    by_cases h700 : i = 700
    · have x0 : x = 0 := hx0.mpr (by omega)
      subst x0
      obtain ⟨m', e1, e2, -⟩ := end_ref h
      refine Or.inr ⟨1, s, c, m', D, p, 0, a, fx D l m, by omega, ?_, e1, e2, h.1.1⟩
      unfold f4_readInto_52
      refine lp_inr (o := some (1, c)) ?_
      have g : (700 : Int32) ≤ nI i := by rw [h700]; decide
      simp only [f4_readInto_52_s, g, if_true, Option.map_some]
    · have g : ¬ (700 : Int32) ≤ nI i := by rw [lit]; exact nI_ge (by omega) (by omega)
      obtain ⟨m10, mfr, tk⟩ := h.1.m10
      obtain ⟨q1, q2⟩ := sgn_eq tk (b := 23) (by omega) (by omega)
      have q1 : f8_isSign 23 c = _ := q1
      have q2 : f12_isSign 59 m = _ := q2
      have c45 : c.1 4 5 = nI (o21 st) := h.1.2.2.2.1.2.1
      have c47 : c.1 4 7 = nI wn := h.1.2.2.2.1.2.2.1
      have m42 : m.1 0 42 = nI (o21 st) := h.1.2.2.2.2.1.2.2.1
      have m44 : m.1 0 44 = nI wn := h.1.2.2.2.2.1.2.2.2.1
      have o8 : o21 st ≤ 8 := h.1.2.2.2.2.2.2.1.2.1
      have w1 : wn ≤ 1 := h.1.2.2.2.2.2.2.1.2.2.1
      have ec : (nI (o21 st) ≤ 0) = (o21 st = 0) := by
        rw [show (0 : Int32) = nI 0 from rfl]
        exact propext ⟨fun z => Decidable.byContradiction fun n => nI_ge (show 0 < o21 st by omega) (by omega) z, fun z => by rw [z]; decide⟩
      have eo : (nI (o21 st) = 0) = (o21 st = 0) := by rw [show (0 : Int32) = nI 0 from rfl]; exact propext (nI_eq (by omega) (by omega))
      have ew : (nI wn = 0) = (wn = 0) := by rw [show (0 : Int32) = nI 0 from rfl]; exact propext (nI_eq (by omega) (by omega))
      by_cases cs : (x = 3 ∧ a = 23) ∧ wn = 0 ∧ o21 st = 0
      · obtain ⟨cx, w0, o0⟩ := cs
        subst w0
        rw [if_pos cx] at q1 q2
        refine Or.inl ⟨D, st, H, may, p, s, x, a, c, m, ?_, ?_, h, o0, hs0⟩
        · unfold f4_readInto_52
          refine lp_inr ?_
          have z7 : c.1 4 7 = 0 := c47
          have z5 : c.1 4 5 = 0 := by rw [c45, o0]; rfl
          simp only [f4_readInto_52_s, g, if_false, z7, z5, if_true, q1, Option.bind_some, one_ne]
        · unfold f12_sumRead_25
          refine lp_inr ?_
          have z7 : m.1 0 44 = 0 := m44
          have z5 : m.1 0 42 ≤ 0 := by rw [m42, o0]; decide
          simp only [f12_sumRead_25_s, q2, Option.bind_some, one_ne, if_false, z7, z5, if_true]
      · have eC : f4_readInto_52_s x2 x3 (nI i) c = f4_readInto_119 x2 x3 (nI i) c := by
          simp only [f4_readInto_52_s, g, if_false, c47, c45, ew, eo, q1, Option.bind_some]
          by_cases z1 : wn = 0
          · rw [if_pos z1]
            by_cases z2 : o21 st = 0
            · rw [if_pos z2, if_neg (fun y => cs ⟨y, z1, z2⟩), if_pos rfl]
            · rw [if_neg z2]
          · rw [if_neg z1]
        have eM : f12_sumRead_25_s m = f12_sumRead_48 m := by
          simp only [f12_sumRead_25_s, q2, Option.bind_some, m44, m42, ew, ec]
          by_cases z : x = 3 ∧ a = 23
          · rw [if_pos z, if_neg (by decide)]
            by_cases z1 : wn = 0
            · rw [if_pos z1, if_neg (fun y => cs ⟨z, z1, y⟩)]
            · rw [if_neg z1]
          · rw [if_neg z, if_pos rfl]
        have key : ∃ rc rm, f4_readInto_119 x2 x3 (nI i) c = (rc : Option (Int32 × Hp)).bind (fun (r16, h17) => f4_readInto_137 x2 x3 (nI i) r16 h17) ∧ f12_sumRead_48 m = (rm : Option (Int32 × Hp)).bind (fun (r9, h10) => if r9 = 0 then (some (.inr (0, h10))) else (some (.inl h10))) ∧ JO T E t c0 m0 l f p s x a c rc rm := by
          by_cases z : wn = 0
          · subst z
            have z7 : c.1 4 7 = 0 := c47
            have z7' : m.1 0 44 = 0 := m44
            refine ⟨_, _, ?_, ?_, joint_all h⟩
            · simp only [f4_readInto_119, z7, if_true]
            · simp only [f12_sumRead_48, z7', if_true]
          · have w1 : wn = 1 := by omega
            subst w1
            have z7 : ¬ c.1 4 7 = 0 := by rw [c47]; decide
            have z7' : ¬ m.1 0 44 = 0 := by rw [m44]; decide
            refine ⟨_, _, ?_, ?_, operand_all h⟩
            · simp only [f4_readInto_119, z7, if_false]
            · simp only [f12_sumRead_48, z7', if_false]
        obtain ⟨rc, rm, e1, e2, hj⟩ := key
        rcases hj with ⟨D', st', H', wn', may', c', m', j1, j2, j3⟩ | ⟨fc, m', hf, j1, j2, j3⟩
        · obtain ⟨c2, m2, p', s', x', a', n1, n2, k', hp⟩ := j3.next
          have x0 : x ≠ 0 := by
            intro x0
            obtain ⟨mm, -, -, u1⟩ := end_ref (x0 ▸ h)
            rw [j2, n2] at e2
            simp only [Option.bind_some, one_ne, if_false] at e2
            rw [eM, e2] at u1
            exact absurd (Option.some.inj u1) (fun z => by cases z)
          have hsp' := hxp x0
          have ih := law_loop (x2 := x2) (x3 := x3) (s0 := s0) n (i + 1) D' st' H' wn' may' p' s' x' a' c2 m2 (by omega) (by omega) (by omega) k'
          have l1 : f4_readInto_52 x2 x3 (nI i) c = f4_readInto_52 x2 x3 (nI (i + 1)) c2 := by
            unfold f4_readInto_52
            refine lp_inl ?_
            show f4_readInto_52_s x2 x3 (nI i) c = _
            rw [eC, e1, j1]
            simp only [Option.bind_some, f4_readInto_137, if_true, n1, nI_1]
          have l2 : f12_sumRead_25 m = f12_sumRead_25 m2 := by
            unfold f12_sumRead_25
            refine lp_inl ?_
            show f12_sumRead_25_s m = _
            rw [eM, e2, j2, n2]
            simp only [Option.bind_some, one_ne, if_false]
          rw [l1, l2]; exact ih
        · have fne : ¬ nI fc = 0 := nI_ne0 (by omega) (by omega)
          refine Or.inr ⟨fc, s, c, m', D, p, x, a, fx D l m, hf, ?_, ?_, j3, h.1.1⟩
          · unfold f4_readInto_52
            refine lp_inr (o := some (nI fc, c)) ?_
            show f4_readInto_52_s x2 x3 (nI i) c = _
            rw [eC, e1, j1]
            simp only [Option.bind_some, f4_readInto_137, fne, if_false, Option.map_some]
          · unfold f12_sumRead_25
            refine lp_inr (o := some (0, m')) ?_
            show f12_sumRead_25_s m = _
            rw [eM, e2, j2]
            simp only [Option.bind_some, if_true, Option.map_some]
end LAWS8
