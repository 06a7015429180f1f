/-! Reading a text: a law's line, whole. -/
section LAWSC
variable {T : Nat → Nat} {E t : Nat} {c0 m0 : Hp} {D D2 : Sp} {p s x a l f : Nat} {c m : Hp}
theorem nI_lits : nI 0 = (0 : Int32) ∧ nI 1 = (1 : Int32) ∧ nI 2 = (2 : Int32) := ⟨rfl, rfl, rfl⟩
theorem law_eC {c1 : Hp} {l : Nat} (hl : l < 3) (es : f7_step c = some c1) (w7 : f8_isWord 777046016 c1 = some (if l = 0 then 1 else 0)) (w8 : f8_isWord 653969408 c1 = some (if l = 1 then 1 else 0)) (w9 : f8_isWord 109103520 c1 = some (if l = 2 then 1 else 0)) : f7_readLaw c = f7_readLaw_53 (nI l) c1 := by
  rcases l3c l hl with z | z | z
  · rw [if_pos z] at w7
    rw [z, nI_lits.1]; exact law_e0 es w7
  · rw [if_neg (by omega)] at w7
    rw [if_pos z] at w8
    rw [z, nI_lits.2.1]; exact law_e1 es w7 w8
  · rw [if_neg (by omega)] at w7
    rw [if_neg (by omega)] at w8
    rw [if_pos z] at w9
    rw [z, nI_lits.2.2]; exact law_e2 es w7 w8 w9
theorem law_53t {c1 c2 : Hp} {fr un : Nat} (hl : l < 3) (ht : t = 55 ∨ t = 78) (hr1 : c1.2.2 3 2 = some t) (l1 : c1.1 (t + 14 + 3) l = nI fr) (l2 : c1.1 (t + 14 + 4) l = nI un) (hu : un ≤ 64) (nt : fr < un) (f1 : f7_fail 3 c1 = some c2) (g1 : FCl t c0 3 s c2) : f7_readLaw_53 (nI l) c1 = some c2 := by
  have hkd := kd10 ht
  have ln1 : ¬ nI l = (-1 : Int32) := m1_ne (by omega)
  have z1 : ¬ nI un ≤ nI fr := nI_ge nt (by omega)
  simp only [f7_readLaw_53, ln1, if_false, f7_readLaw_65, f7_check, one_ne, Option.bind_some, hr1, gd, hkd, if_true, f5_isTold, inb_t hl (by omega), ix_nI (show l < 2 ^ 31 by omega), l1, l2, z1, f7_readLaw_94, f1, g1.step, g1.law102]
theorem law_53n {c1 c2 : Hp} {fr un : Nat} (hl : l < 3) (ht : t = 55 ∨ t = 78) (hr1 : c1.2.2 3 2 = some t) (l1 : c1.1 (t + 14 + 3) l = nI fr) (l2 : c1.1 (t + 14 + 4) l = nI un) (hu : fr ≤ 64) (nt : ¬ fr < un) (es2 : f7_step c1 = some c2) : f7_readLaw_53 (nI l) c1 = f7_readLaw_102 (nI l) c2 := by
  have hkd := kd10 ht
  have ln1 : ¬ nI l = (-1 : Int32) := m1_ne (by omega)
  have z1 : nI un ≤ nI fr := nI_le (by omega) (by omega)
  simp only [f7_readLaw_53, ln1, if_false, f7_readLaw_65, f7_check, one_ne, Option.bind_some, hr1, gd, hkd, if_true, f5_isTold, inb_t hl (by omega), ix_nI (show l < 2 ^ 31 by omega), l1, l2, z1, f7_readLaw_94, es2]
theorem law_53f {c1 c2 : Hp} (f1 : f7_fail 1 c1 = some c2) (g1 : FCl t c0 1 s c2) : f7_readLaw_53 (-1) c1 = some c2 := by
  simp only [f7_readLaw_53, if_true, f7_readLaw_65, f7_check, f1, Option.bind_some, g1.law102]
theorem law_line (h : RB T E t c0 m0 D D p s x a c m) (hx : x ≠ 0) : LO T E t c0 m0 s (f7_readLaw c) (lwR m) := by
  have hsp := h.lt hx
  obtain ⟨c1, m1, p1, s1, x1, a1, e1, e2, k1, hp1, fc1, fm1⟩ := h.next
  have es : f7_step c = some c1 := by simp only [f7_step, h.2.1.1, if_true, e1, Option.bind_some]
  have ss1 : s1 ≤ p1 := k1.1.2.2.2.2.2.1
  have tk := k1.1.2.2.2.2.2.2.2.1
  have ht := k1.2.2.1.2
  have hr1 := k1.2.2.1.1
  rcases lawname tk with ⟨l, hl, u1, u2, w7, w8, w9⟩ | ⟨w7, w8, w9, hno⟩
  · have lC := (k1.2.2.2.1.2.2.2.2.2 l hl)
    have lM := (k1.2.2.2.2.1.2.2.2.2.2 l hl).1
    obtain ⟨wl1, wl2, -, -⟩ := k1.2.2.2.2.2.1.2.2.2.2.2.2.2.2.2.2.2 l hl
    have wl3 : D 0 3 ≤ 64 := k1.2.2.2.2.2.1.2.2.2.2.2.2.2.2.2.2.1
    rw [law_eC hl es w7 w8 w9, law_eR hl e2 u1 u2]
    by_cases nt : D 42 l < D 43 l
    · obtain ⟨c2, m2, f1, f2, g1, g2⟩ := k1.fail (f := 3) (by omega)
      have f1 : f7_fail 3 c1 = some c2 := f1
      have f2 : f12_wrong 3 m1 = some (0, m2) := f2
      rw [if_pos nt] at lM
      refine Or.inr ⟨3, s1, c2, m2, law_53t hl ht hr1 lC.1 lC.2 (by omega) nt f1 g1, ?_, g1, g2⟩
      rw [lM, if_neg (by decide), f2]
      rfl
    · rw [if_neg nt] at lM
      have kf : RB T E t c0 m0 D D p1 s1 x1 a1 c1 (fx D l (wI m1 14 (3 + l) 1)) := by
        refine k1.mcg (fun q j => ?_) rfl
        by_cases y1 : q = 0 ∧ j = 43
        · rw [y1.1, y1.2, fx_1.1]; exact k1.2.2.2.2.1.1.2.2.2.2.2.1.symm
        · by_cases y2 : q = 14 ∧ j = 3 + l
          · rw [y2.1, y2.2, fx_1.2]; exact lM.symm
          · rw [fx_o y1 y2, wI_o y2]
      obtain ⟨c2, m2, p2, s2, x2, a2, n1, n2, k2, hp2, fc2, fm2⟩ := kf.nextF
      have es2 : f7_step c1 = some c2 := by simp only [f7_step, k1.2.1.1, if_true, n1, Option.bind_some]
      have key := law_sum (s0 := s) k2 hl nt (by rw [fm2.1 _ _ (by omega), wI_o (by omega)]; exact k1.2.2.2.2.1.1.2.2.2.2.2.1) (by rw [fm2.1 _ _ (by omega), wI_s]) (by omega)
      rw [law_53n hl ht hr1 lC.1 lC.2 (by omega) nt es2, if_pos lM, n2, Option.bind_some]
      exact key
  · obtain ⟨c2, m2, f1, f2, g1, g2⟩ := k1.fail (f := 1) (by omega)
    have f1 : f7_fail 1 c1 = some c2 := f1
    have f2 : f12_wrong 1 m1 = some (0, m2) := f2
    refine Or.inr ⟨1, s1, c2, m2, (law_e3 es w7 w8 w9).trans (law_53f f1 g1), ?_, g1, g2⟩
    have e148 : f12_lineRead_148 m1 = some (0, m2) := by simp only [f12_lineRead_148, f2, Option.bind_some, gd, bzz, if_true]
    rcases hno with q8 | ⟨w, hw, q8, u2, hw2⟩
    · simp only [lwR, e2, Option.bind_some, q8, if_false, e148]
    · by_cases z : w < 7
      · have g : nI w < 7 := by rw [lit]; exact nI_lt z (by omega)
        simp only [lwR, e2, Option.bind_some, q8, if_true, u2, g, e148]
      · have g : ¬ nI w < 7 := by rw [lit]; exact nI_nlt (by omega) (by omega)
        have g9 : ¬ nI w ≤ 9 := by rw [lit]; exact nI_ge (by omega) (by omega)
        simp only [lwR, e2, Option.bind_some, q8, if_true, u2, g, if_false, g9, e148]
end LAWSC
