/-! count. -/
def popN (x : Nat) : Nat := cnt (fun k => tb x k) 10
set_option maxRecDepth 100000 in
theorem bitCount_all : ∀ x, x < 1024 → fJ_bitCount_0f7a4 (nI x) = some (nI (popN x)) := by decide +kernel
theorem manyOf_eq {x : Nat} (hx : x < 1024) : f12_manyOf (nI x) = some (nI (popN x)) := by
  unfold f12_manyOf f12_manyOf_4 popN
  refine lp_for1 (f := fun z : Int32 × Int32 => f12_manyOf_4_s (nI x) z.1 z.2) (fun i => (nI (cnt (fun k => tb x k) i), nI i)) 10 (fun i hi => ?_) ?_
  · simp only [f12_manyOf_4_s, g10 hi, if_false, bit_nI (show x < 2 ^ 31 by omega) (show i < 32 by omega), lt, nI_add, nI_1, cnt, tb]
    have : x / 2 ^ i % 2 = 0 ∨ x / 2 ^ i % 2 = 1 := by omega
    rcases this with z | z <;> simp [z]
  · simp only [f12_manyOf_4_s, l10, if_true]
/-- sums over the boxes, both sides -/
theorem sum_sim {S : Sp} {c m : Hp} {x : Int32} {v : Nat → Int32} {g : Int32 × Int32 → Option ((Int32 × Int32) ⊕ (Int32 × Hp))} (hC : nowC S c) (hn : S 0 0 ≤ 6) (h1 : ∀ a j, j < S 0 0 → f11_sumOfBoxes_4_s x a (nI j) c = some (.inl (a + v j, nI (j + 1)))) (h2 : ∀ a j, j < S 0 0 → g (a, nI j) = some (.inl (a + v j, nI (j + 1)))) (h3 : ∀ a, g (a, nI (S 0 0)) = some (.inr (a, m))) : ∃ r, f11_sumOfBoxes x c = some r ∧ lp g (0, 0) = some (r, m) := by
  unfold f11_sumOfBoxes f11_sumOfBoxes_4
  have key := lp_sim (f := fun z : Int32 × Int32 => f11_sumOfBoxes_4_s x z.1 z.2 c) (g := g) (Q := fun r r' => r' = (r, m)) (I := fun n s s' => ∃ a j, j ≤ S 0 0 ∧ n = S 0 0 - j ∧ s = s' ∧ s = (a, nI j)) ?_ (S 0 0) (0, 0) (0, 0) ⟨0, 0, by omega, rfl, rfl, rfl⟩
  · obtain ⟨r, r', e, e', rfl⟩ := key
    exact ⟨r, e, e'⟩
  · rintro n s _ ⟨a, j, hj, hnj, rfl, rfl⟩
    by_cases he : j = S 0 0
    · subst he
      refine ⟨.inr a, .inr (a, m), ?_, h3 a, rfl⟩
      simp only [f11_sumOfBoxes_4_s, hC.1, nI_le (Nat.le_refl (S 0 0)) (show S 0 0 < 2 ^ 31 by omega), if_true]
    · exact ⟨_, _, h1 a j (by omega), h2 a j (by omega), S 0 0 - (j + 1), by omega, _, j + 1, by omega, rfl, rfl, rfl⟩
theorem sum1 {S : Sp} {c : Hp} {j : Nat} (hC : nowC S c) (hn : S 0 0 ≤ 6) (hj : j < S 0 0) (w : wfNow S) (a : Int32) : f11_sumOfBoxes_4_s 5 a (nI j) c = some (.inl (a + nI (S 8 j), nI (j + 1))) ∧ f11_sumOfBoxes_4_s 6 a (nI j) c = some (.inl (a + nI (S 9 j), nI (j + 1))) ∧ f11_sumOfBoxes_4_s 7 a (nI j) c = some (.inl (a + nI (S 6 j), nI (j + 1))) ∧ f11_sumOfBoxes_4_s 8 a (nI j) c = some (.inl (a + nI (popN (S 4 j)), nI (j + 1))) := by
  have b := hC.2.2.2.2 j hj
  have wj := w.2.2.2.2 j hj
  have g := nI_ge hj (show S 0 0 < 2 ^ 31 by omega)
  have i6 := inb_t (show j < 6 by omega) (show 6 < 2 ^ 31 by omega)
  have ixj := ix_nI (show j < 2 ^ 31 by omega)
  refine ⟨?_, ?_, ?_, ?_⟩
  · simp only [f11_sumOfBoxes_4_s, f11_sumOfBoxes_95, hC.1, g, if_false, gd, i6, if_true, lt, ixj, b.2.2.2.2.2.1, nI_1]
  · simp only [f11_sumOfBoxes_4_s, f11_sumOfBoxes_95, hC.1, g, if_false, gd, i6, if_true, lt, ixj, b.2.2.2.2.2.2.1, nI_1, show ((6 : Int32) = 5) = False from by decide]
  · simp only [f11_sumOfBoxes_4_s, f11_sumOfBoxes_79, f11_sumOfBoxes_95, hC.1, g, if_false, gd, i6, if_true, lt, ixj, b.2.2.2.2.2.2.2.2.1, nI_1, show ((7 : Int32) = 5) = False from by decide, show ((7 : Int32) = 6) = False from by decide]
    have : S 6 j = 0 ∨ S 6 j = 1 := by omega
    rcases this with z | z <;> rw [z] <;> rfl
  · simp only [f11_sumOfBoxes_4_s, f11_sumOfBoxes_95, hC.1, g, if_false, gd, i6, if_true, lt, ixj, b.2.2.2.2.2.2.2.1, nI_1, show ((8 : Int32) = 5) = False from by decide, show ((8 : Int32) = 6) = False from by decide, show ((8 : Int32) = 7) = False from by decide, bitCount_all (S 4 j) wj.2.2.2.1.1, Option.bind_some]
theorem sumAll {S : Sp} {c m : Hp} (w : wfNow S) (hC : nowC S c) (hM : nowM S m) : (∃ r, f11_sumOfBoxes 5 c = some r ∧ f12_count_105 0 0 m = some (r, m)) ∧ (∃ r, f11_sumOfBoxes 6 c = some r ∧ f12_laughsAll 0 m = some r) ∧ (∃ r, f11_sumOfBoxes 7 c = some r ∧ f12_count_138 0 0 m = some (r, m)) ∧ (∃ r, f11_sumOfBoxes 8 c = some r ∧ f12_count_173 0 0 m = some (r, m)) := by
  have hn := w.1
  have le := nI_le (Nat.le_refl (S 0 0)) (show S 0 0 < 2 ^ 31 by omega)
  have e6 : ∀ j, (6 * 0 + nI j : Int32) = nI j := fun j => by rw [lit, show (0 : Int32) = nI 0 from rfl, pk_mul, nI_add, show 6 * 0 + j = j by omega]
  refine ⟨?_, ?_, ?_, ?_⟩
  · refine sum_sim (v := fun j => nI (S 8 j)) (g := fun z : Int32 × Int32 => f12_count_105_s z.1 z.2 m) hC hn (fun a j hj => (sum1 hC hn hj w a).1) (fun a j hj => ?_) (fun a => ?_)
    · simp only [f12_count_105_s, hM.1, nI_ge hj (show S 0 0 < 2 ^ 31 by omega), if_false, gd, inb_t (show j < 12 by omega) (by omega), if_true, ix_nI (show j < 2 ^ 31 by omega), (hM.2.2.2.2 j hj).2.2.2.2.1, lt, nI_1]
    · simp only [f12_count_105_s, hM.1, le, if_true]
  · obtain ⟨r, a, b⟩ := sum_sim (x := 6) (v := fun j => nI (S 9 j)) (g := fun z : Int32 × Int32 => (f12_laughsAll_4_s 0 z.1 z.2 m).map (fun o => match o with | .inl s => .inl s | .inr v => .inr (v, m))) (m := m) hC hn (fun a j hj => (sum1 hC hn hj w a).2.1) (fun a j hj => by
      simp only [f12_laughsAll_4_s, hM.1, nI_ge hj (show S 0 0 < 2 ^ 31 by omega), if_false, gd, e6, inb_t (show j < 12 by omega) (by omega), if_true, ix_nI (show j < 2 ^ 31 by omega), (hM.2.2.2.2 j hj).2.2.2.2.2.1, lt, nI_1, Option.map_some]) (fun a => by
      simp only [f12_laughsAll_4_s, hM.1, le, if_true, Option.map_some])
    refine ⟨r, a, ?_⟩
    unfold f12_laughsAll f12_laughsAll_4
    have key := lp_sim (f := fun z : Int32 × Int32 => f12_laughsAll_4_s 0 z.1 z.2 m) (g := fun z : Int32 × Int32 => (f12_laughsAll_4_s 0 z.1 z.2 m).map (fun o => match o with | .inl s => .inl s | .inr v => .inr (v, m))) (Q := fun r r' => r' = (r, m)) (I := fun n s s' => ∃ a j, j ≤ S 0 0 ∧ n = S 0 0 - j ∧ s = s' ∧ s = (a, nI j)) ?_ (S 0 0) (0, 0) (0, 0) ⟨0, 0, by omega, rfl, rfl, rfl⟩
    · obtain ⟨r1, r1', e, e', rfl⟩ := key
      have e' : lp (fun z : Int32 × Int32 => (f12_laughsAll_4_s 0 z.1 z.2 m).map (fun o => match o with | .inl s => .inl s | .inr v => .inr (v, m))) (0, 0) = some (r1, m) := e'
      rw [b] at e'
      cases e'
      exact e
    · rintro n s _ ⟨a, j, hj, hnj, rfl, rfl⟩
      by_cases he : j = S 0 0
      · subst he
        refine ⟨.inr a, .inr (a, m), ?_, ?_, rfl⟩
        · simp only [f12_laughsAll_4_s, hM.1, le, if_true]
        · simp only [f12_laughsAll_4_s, hM.1, le, if_true, Option.map_some]
      · have hlt : j < S 0 0 := by omega
        refine ⟨.inl (a + nI (S 9 j), nI (j + 1)), .inl (a + nI (S 9 j), nI (j + 1)), ?_, ?_, S 0 0 - (j + 1), by omega, _, j + 1, by omega, rfl, rfl, rfl⟩
        · simp only [f12_laughsAll_4_s, hM.1, nI_ge hlt (show S 0 0 < 2 ^ 31 by omega), if_false, gd, e6, inb_t (show j < 12 by omega) (by omega), if_true, ix_nI (show j < 2 ^ 31 by omega), (hM.2.2.2.2 j hlt).2.2.2.2.2.1, lt, nI_1]
        · simp only [f12_laughsAll_4_s, hM.1, nI_ge hlt (show S 0 0 < 2 ^ 31 by omega), if_false, gd, e6, inb_t (show j < 12 by omega) (by omega), if_true, ix_nI (show j < 2 ^ 31 by omega), (hM.2.2.2.2 j hlt).2.2.2.2.2.1, lt, nI_1, Option.map_some]
  · refine sum_sim (v := fun j => nI (S 6 j)) (g := fun z : Int32 × Int32 => f12_count_138_s z.1 z.2 m) hC hn (fun a j hj => (sum1 hC hn hj w a).2.2.1) (fun a j hj => ?_) (fun a => ?_)
    · have wj := w.2.2.2.2 j hj
      simp only [f12_count_138_s, f12_count_161, hM.1, nI_ge hj (show S 0 0 < 2 ^ 31 by omega), if_false, gd, inb_t (show j < 12 by omega) (by omega), if_true, ix_nI (show j < 2 ^ 31 by omega), (hM.2.2.2.2 j hj).2.2.2.2.2.2.2.1, lt, nI_1]
      have : S 6 j = 0 ∨ S 6 j = 1 := by omega
      rcases this with z | z <;> rw [z] <;> rfl
    · simp only [f12_count_138_s, hM.1, le, if_true]
  · refine sum_sim (v := fun j => nI (popN (S 4 j))) (g := fun z : Int32 × Int32 => f12_count_173_s z.1 z.2 m) hC hn (fun a j hj => (sum1 hC hn hj w a).2.2.2) (fun a j hj => ?_) (fun a => ?_)
    · have wj := w.2.2.2.2 j hj
      simp only [f12_count_173_s, hM.1, nI_ge hj (show S 0 0 < 2 ^ 31 by omega), if_false, gd, inb_t (show j < 12 by omega) (by omega), if_true, ix_nI (show j < 2 ^ 31 by omega), (hM.2.2.2.2 j hj).2.2.2.2.2.2.1, manyOf_eq wj.2.2.2.1.1, Option.bind_some, lt, nI_1]
    · simp only [f12_count_173_s, hM.1, le, if_true]
theorem op_count {S : Sp} {t : Nat} {c m : Hp} (w : wfNow S) (w3 : wfFnd S) (hC : nowC S c) (hM : nowM S m) (hT : toldC S t c) (hU : toldM S m) (fC : fndC S c) (fM : fndM S m) (uC : undC S c) (uM : undM S m) (x : Int32) : ∃ r m', f11_count x c = some r ∧ f12_count x m = some (r, m') ∧ frM m m' := by
  obtain ⟨m1, em, o, o2⟩ := m0_ex2 m
  obtain ⟨m1', em', fr⟩ := m0_ex m
  rw [em] at em'
  subst em'
  have hM1 := hM.fr w fr
  have hU1 := hU.fr fr
  have fM1 := fM.fr fr
  have uM1 := uM.o o
  have hkd := kd10 hT.2.1
  obtain ⟨⟨r5, a5, b5⟩, ⟨r6, a6, b6⟩, ⟨r7, a7, b7⟩, ⟨r8, a8, b8⟩⟩ := sumAll w hC hM1
  have i2 : inb 0 2 = true := by decide
  have x0 : ix 0 = 0 := by decide
  by_cases q0 : x = 0
  · subst q0; refine ⟨nI (S 0 0), m1, ?_, ?_, fr⟩
    · simp only [f11_count, if_true, hC.1]
    · simp only [f12_count, em, lt, if_true, hM1.1]
  by_cases q1 : x = 1
  · subst q1; refine ⟨nI (S 0 2), m1, ?_, ?_, fr⟩
    · simp only [f11_count, q0, if_false, if_true, hT.1, Option.bind_some, gd, hkd, hT.2.2.2.2.1]
    · simp only [f12_count, em, lt, q0, if_false, if_true, hU1.2.1]
  by_cases q2 : x = 2
  · subst q2; refine ⟨nI (S 0 1), m1, ?_, ?_, fr⟩
    · simp only [f11_count, q0, q1, if_false, if_true, hT.1, Option.bind_some, gd, hkd, hT.2.2.2.1]
    · simp only [f12_count, em, lt, q0, q1, if_false, if_true, hU1.1]
  by_cases q3 : x = 3
  · subst q3; refine ⟨nI (S 0 3), m1, ?_, ?_, fr⟩
    · simp only [f11_count, q0, q1, q2, if_false, if_true, hT.1, Option.bind_some, gd, hkd, hT.2.2.2.2.2.1]
    · simp only [f12_count, em, lt, q0, q1, q2, if_false, if_true, hU1.2.2.1]
  by_cases q4 : x = 4
  · subst q4; refine ⟨nI (S 0 4), m1, ?_, ?_, fr⟩
    · simp only [f11_count, q0, q1, q2, q3, if_false, if_true, hC.2.1]
    · simp only [f12_count, em, lt, q0, q1, q2, q3, if_false, if_true, gd, i2, x0, hM1.2.1]
  by_cases q5 : x = 5
  · subst q5; refine ⟨r5, m1, ?_, ?_, fr⟩
    · simp only [f11_count, q0, q1, q2, q3, q4, if_false, if_true, a5, Option.bind_some]
    · simp only [f12_count, em, lt, q0, q1, q2, q3, q4, if_false, if_true, b5]
  by_cases q6 : x = 6
  · subst q6; refine ⟨r6, m1, ?_, ?_, fr⟩
    · simp only [f11_count, q0, q1, q2, q3, q4, q5, if_false, if_true, a6, Option.bind_some]
    · simp only [f12_count, em, lt, q0, q1, q2, q3, q4, q5, if_false, if_true, b6, Option.bind_some]
  by_cases q7 : x = 7
  · subst q7; refine ⟨r7, m1, ?_, ?_, fr⟩
    · simp only [f11_count, q0, q1, q2, q3, q4, q5, q6, if_false, if_true, a7, Option.bind_some]
    · simp only [f12_count, em, lt, q0, q1, q2, q3, q4, q5, q6, if_false, if_true, b7]
  by_cases q8 : x = 8
  · subst q8; refine ⟨r8, m1, ?_, ?_, fr⟩
    · simp only [f11_count, q0, q1, q2, q3, q4, q5, q6, q7, if_false, if_true, a8, Option.bind_some]
    · simp only [f12_count, em, lt, q0, q1, q2, q3, q4, q5, q6, q7, if_false, if_true, b8]
  by_cases q9 : x = 9
  · subst q9; refine ⟨nI (S 0 6), m1, ?_, ?_, fr⟩
    · simp only [f11_count, q0, q1, q2, q3, q4, q5, q6, q7, q8, if_false, if_true, hC.2.2.2.1]
    · simp only [f12_count, em, lt, q0, q1, q2, q3, q4, q5, q6, q7, q8, if_false, if_true, gd, i2, x0, hM1.2.2.2.1]
  by_cases q10 : x = 10
  · subst q10; refine ⟨nI (S 0 14), m1, ?_, ?_, fr⟩
    · simp only [f11_count, q0, q1, q2, q3, q4, q5, q6, q7, q8, q9, if_false, if_true, fC.1]
    · simp only [f12_count, em, lt, q0, q1, q2, q3, q4, q5, q6, q7, q8, q9, if_false, if_true, fM1.1]
  by_cases q11 : x = 11
  · subst q11; refine ⟨nI (kb S), m1, ?_, ?_, fr⟩
    · simp only [f11_count, q0, q1, q2, q3, q4, q5, q6, q7, q8, q9, q10, if_false, if_true, firstKnown_eq w3 fC, Option.bind_some]
    · simp only [f12_count, em, lt, q0, q1, q2, q3, q4, q5, q6, q7, q8, q9, q10, if_false, if_true, knownBy_eq w3 fM1, Option.bind_some]
  by_cases q12 : x = 12
  · subst q12; refine ⟨nI (S 0 12), m1, ?_, ?_, fr⟩
    · simp only [f11_count, q0, q1, q2, q3, q4, q5, q6, q7, q8, q9, q10, q11, if_false, if_true, uC.1]
    · simp only [f12_count, em, lt, q0, q1, q2, q3, q4, q5, q6, q7, q8, q9, q10, q11, if_false, if_true, uM1.1]
  refine ⟨-1, m1, ?_, ?_, fr⟩
  · simp only [f11_count, q0, q1, q2, q3, q4, q5, q6, q7, q8, q9, q10, q11, q12, if_false]
  · simp only [f12_count, em, lt, q0, q1, q2, q3, q4, q5, q6, q7, q8, q9, q10, q11, q12, if_false]
