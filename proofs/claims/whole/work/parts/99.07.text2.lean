/-! The call text, on both sides. -/
section TX2
variable {S : Sp} {t : Nat} {c m : Hp}
/-- a fault was met -/
def badS (S : Sp) (f s : Nat) : Sp := fun a b => if a = 0 ∧ b = 9 then 0 else if a = 0 ∧ b = 10 then f else if a = 0 ∧ b = 11 then s + 1 else S a b
theorem bS_o {f s a b : Nat} (h : ¬ (a = 0 ∧ (b = 9 ∨ b = 10 ∨ b = 11))) : badS S f s a b = S a b := by
  unfold badS
  rw [if_neg (by omega), if_neg (by omega), if_neg (by omega)]
theorem r_text (h : RR S t c m) (x : Int32) : OK2 (f11_text x c) (f12_text x m) := by
  have tC := h.2.1.2.2.2.2.2.2.1
  have tM := h.2.2.1.2.2.2.2.2.2.1
  have tw := h.1.2.2.2.2.2.2
  have h9 : S 0 9 ≤ 700 := tw.1
  have no : (x < 0 ∨ ¬ x ≤ nI (S 0 9)) → OK2 (f11_text x c) (f12_text x m) := fun z => by
    have vm : (wI m 0 2 0).1 0 1 = nI (S 0 9) := (wI_o (by omega)).trans tM.1
    refine ⟨S, t, -2, c, wI m 0 2 0, ?_, ?_, h.q frC.rf (frM.rf.w (by unfold scrM; omega))⟩
    · by_cases z0 : x < 0
      · simp only [f11_text, z0, if_true]
      · have z1 : ¬ x ≤ nI (S 0 9) := by rcases z with z | z
                                         · exact absurd z z0
                                         · exact z
        simp only [f11_text, z0, if_false, tC.1, z1]
    · by_cases z0 : x < 0
      · simp only [f12_text, lt, z0, if_true]
      · have z1 : ¬ x ≤ nI (S 0 9) := by rcases z with z | z
                                         · exact absurd z z0
                                         · exact z
        simp only [f12_text, lt, z0, if_false, vm, z1]
  by_cases x0 : x < 0
  · exact no (Or.inl x0)
  by_cases x1 : x ≤ nI (S 0 9)
  · obtain ⟨n, hn, rfl⟩ := nI_of x0
    have hn9 : n ≤ S 0 9 := by
      rcases Nat.lt_or_ge (S 0 9) n with q | q
      · exact absurd x1 (nI_ge q hn)
      · exact q
    have ht := h.2.1.2.1.2.1
    obtain ⟨u, eu⟩ : ∃ u, u = 133 - t := ⟨_, rfl⟩
    have hu : u = 55 ∨ u = 78 := by omega
    have etu : t = 133 - u := by omega
    have ru : c.2.2 0 12 = some u := by rw [eu]; exact h.2.2.2.2.2.2
    have rt : c.2.2 0 11 = some t := h.2.1.2.1.1
    have hku := kd10 hu
    have z55 := h.2.2.2.2.1
    have z78 := h.2.2.2.2.2.1
    have zu : zT u c := by rcases hu with e | e <;> rw [e] <;> assumption
    have zt : zT t c := by rcases ht with e | e <;> rw [e] <;> assumption
    obtain ⟨c1, m1, p, s, y, a, e1, e2, rb, k11, fx, fy, y1, y2, rr⟩ := text_start tw tC tM h.2.2.2.1.2 hu zu hn9
    have lc : f11_text (nI n) c = (f7_readAll_32 0 c1).bind fun h5 => lt (wI h5 1 1 0) fun h6 => if h6.1 3 3 = 0 then ((h6.2.2 0 11).bind fun p8 => gd (decide (kdC p8 = 10)) <| (h6.2.2 0 12).bind fun p10 => gd (decide (kdC p10 = 10)) <| lt (wR h6 0 11 (some p10)) fun h12 => lt (wR h12 0 12 (some p8)) fun h13 => (h13.2.2 0 11).bind fun p14 => gd (decide (kdC p14 = 10)) <| (f9_setOut 6 p14 h13).bind fun h16 => (f3_clear h16).bind fun h17 => (f1_clear h17).bind fun h18 => lt (wI h18 0 13 0) fun h19 => (h19.2.2 0 11).bind fun p20 => gd (decide (kdC p20 = 10)) <| some (h19.1 p20 11, h19)) else (some ((-1), h6)) := by
      have v1 : nI n ≤ c.1 1 1 := by rw [tC.1]; exact x1
      unfold f11_text
      rw [if_neg x0, if_pos v1, ru, Option.bind_some, hku, ← e1]
      rfl
    rw [lc, e2]
    rcases text_loop 701 0 D0 p s y a c1 m1 rfl (Nat.zero_le _) rb k11 with ⟨D, p', s', a', c2, m2, j, q1, q2, q3, q4, q5, q6, q7⟩ | ⟨f, s', c2, m2, cb, q1, q2, q3, q4, q5⟩
    · have q1 : f7_readAll_32 0 c1 = some c2 := q1
      have q2 : f12_text_55 0 m1 = f12_text_77 (nI j) m2 := q2
      have fxx := fx.q q6
      have wD := q3.2.2.2.2.2.1
      have g0 : m2.1 0 1 = 0 ∧ m2.1 0 4 = 0 ∧ m2.1 0 5 = -1 := ⟨by rw [q7.1 _ _ (by unfold rdM; omega)]; exact y1, q3.2.1.2.2.1, q3.2.1.2.2.2⟩
      obtain ⟨m3, e3, M, b3, w3⟩ := took_m wD q3.2.2.2.2.1 q3.1.1.2.2.2.2 g0
      have zt2 : zT t c2 := zt.fr (fun q k h1 h2 _ => fxx.1 q k (by omega) (by omega) (by omega) (by omega) (by omega))
      obtain ⟨c3, e4, C, Z⟩ := took_c (j := j) wD hu etu q3.2.2.2.1 q3.2.2.2.2.2.2.1 zt2 ⟨q3.2.1.1, q3.2.1.2.1⟩ ((fxx.2 _ _ (by omega) (by omega)).trans rt) ((fxx.2 _ _ (by omega) (by omega)).trans ru) q4
      refine ⟨newS D, u, nI j, c3, m3, ?_, ?_, wf_new wD, C, M, ⟨b3, w3⟩, Z⟩
      · rw [q1, Option.bind_some]; exact e4
      · rw [q2]; simp only [f12_text_77, e3, Option.bind_some]
    · have q1 : f7_readAll_32 0 c1 = some c2 := q1
      have q2 : f12_text_55 0 m1 = some (-1, m2) := q2
      have fxx := fx.q q5
      have fyy := fy.s q4.2.2
      obtain ⟨C, eC⟩ : ∃ C, C = wI c2 1 1 0 := ⟨_, rfl⟩
      have f' : ∀ q k, ¬ (q = 1) → ¬ (q = 3) → ¬ q = 4 → ¬ q = 5 → ¬ (u ≤ q ∧ q ≤ u + 22) → C.1 q k = c.1 q k := fun q k n1 n2 n3 n4 n5 => by
        rw [eC, wI_o (by omega)]; exact fxx.1 q k (by omega) (by omega) n3 n4 n5
      have fr' : ∀ q k, ¬ (q = 4 ∧ k = 2) → ¬ (q = 3 ∧ k = 2) → C.2.2 q k = c.2.2 q k := fun q k n1 n2 => by rw [eC]; exact fxx.2 q k n1 n2
      have g' : ∀ q k, ¬ rdX q k → m2.1 q k = m.1 q k := fyy.1
      have eo : ∀ a b, ¬ (a = 0 ∧ (b = 9 ∨ b = 10 ∨ b = 11)) → badS S f s' a b = S a b := fun a b n => bS_o n
      have b9 : badS S f s' 0 9 = 0 := by simp [badS]
      have b10 : badS S f s' 0 10 = f := by simp [badS]
      have b11 : badS S f s' 0 11 = s' + 1 := by simp [badS]
      have eT' : eT S (badS S f s') := fun a b z => eo a b (by omega)
      have eI2 : eI' S (badS S f s') := fun a b z => eo a b (by omega)
      have eF' : eF S (badS S f s') := fun a b z => eo a b (by omega)
      have eU' : eU S (badS S f s') := fun a b z => eo a b (by omega)
      have hnn := h.1.1.1
      have ft : ∀ q k, t ≤ q → q ≤ t + 22 → C.1 q k = c.1 q k := fun q k h1 h2 => f' q k (by omega) (by omega) (by omega) (by omega) (by omega)
      have sf : s' ≤ 700 := q3.2.2.2.1
      have zu2 : zT u C := by rw [eC]; exact q3.2.2.2.2.2.1.w (fun i _ _ => by omega)
      have zt2 : zT t C := zt.fr (fun q k h1 h2 _ => ft q k h1 h2)
      have kf : kI (s' + 1) = nI s' := by unfold kI; rw [if_neg (by omega)]; rfl
      refine ⟨badS S f s', t, -1, C, m2, ?_, ?_, ⟨h.1.1.cg (fun k z => eo 0 k (by omega)) (fun a k h1 h2 => eo a k (by omega)), h.1.2.1.mv eT', h.1.2.2.1.cg (eo 0 3 (by omega)) (fun a b h1 h2 => eo a b (by omega)), h.1.2.2.2.1.mv eF', h.1.2.2.2.2.1.mv eU', h.1.2.2.2.2.2.1.mv eT' eI2, by rw [b9]; exact Nat.zero_le _, fun i hi => by rw [b9] at hi; exact absurd hi (Nat.not_lt_zero i)⟩, ⟨h.2.1.1.cg (fun k z => eo 0 k (by omega)) (fun a k h1 h2 => eo a k (by omega)) hnn (fun q k z => f' q k (by omega) (by omega) (by omega) (by omega) (by omega)), ?_, ?_, h.2.1.2.2.2.1.mv eF' (fun q k h1 h2 => f' q k (by omega) (by omega) (by omega) (by omega) (by omega)), h.2.1.2.2.2.2.1.mv eU' (fun q k h1 h2 => f' q k (by omega) (by omega) (by omega) (by omega) (by omega)), h.2.1.2.2.2.2.2.1.mv hnn eT' eI2 (f' _ _ (by omega) (by omega) (by omega) (by omega) (by omega)) (fun q k h1 h2 => f' q k (by omega) (by omega) (by omega) (by omega) (by omega)), ⟨by rw [b9, eC]; exact wI_s, fun i hi => by rw [b9] at hi; exact absurd hi (Nat.not_lt_zero i)⟩, ?_, ?_⟩, ⟨h.2.2.1.1.cg (fun k z => eo 0 k (by omega)) (fun a k h1 h2 => eo a k (by omega)) hnn (fun q k z => g' q k (by unfold rdX rdM; omega)) (by rw [fyy.2]), ?_, ?_, h.2.2.1.2.2.2.1.mv eF' (fun q k z => g' q k (by unfold rdX rdM; omega)), h.2.2.1.2.2.2.2.1.mv eU' (fun q k z => g' q k (by unfold rdX rdM; omega)), h.2.2.1.2.2.2.2.2.1.mv eT' eI2 (fun q k z => g' q k (by unfold rdX rdM; omega)) (by rw [fyy.2]), ⟨by rw [b9, q4.2.2.1 _ _ (by unfold rdM; omega)]; exact y1, fun i hi => by rw [b9] at hi; exact absurd hi (Nat.not_lt_zero i)⟩, ?_, ?_⟩, ⟨fun i hi => by rw [g' _ _ (by unfold rdX rdM; omega)]; exact h.2.2.2.1.1 i hi, h.2.2.2.1.2.mv (fun k => g' _ k (by unfold rdX rdM; omega))⟩, ?_, ?_, ?_⟩
      · rw [q1, Option.bind_some]
        have v3 : ¬ C.1 3 3 = 0 := by rw [eC, wI_o (by omega)]; exact q3.ne
        have eC' : wI c2 1 1 0 = C := eC.symm
        simp only [lt, eC', v3, if_false]
      · exact q2
      · obtain ⟨h1, h2, h3, h4, h5, h6, h7, h8, h9⟩ := h.2.1.2.1
        refine ⟨(fr' _ _ (by omega) (by omega)).trans h1, h2, ?_, ?_, ?_, ?_, ?_, fun i hi => ?_, fun g hg => ?_⟩
        · rw [eo 0 0 (by omega), ft _ _ (by omega) (by omega)]; exact h3
        · rw [eo 0 1 (by omega), ft _ _ (by omega) (by omega)]; exact h4
        · rw [eo 0 2 (by omega), ft _ _ (by omega) (by omega)]; exact h5
        · rw [eo 0 3 (by omega), ft _ _ (by omega) (by omega)]; exact h6
        · rw [eo 0 7 (by omega), ft _ _ (by omega) (by omega)]; exact h7
        · rw [eo 0 0 (by omega)] at hi
          rw [eo 10 i (by omega), ft _ _ (by omega) (by omega)]; exact h8 i hi
        · rw [eo 0 1 (by omega)] at hg
          rw [eo 11 g (by omega), eo 12 g (by omega), eo 13 g (by omega), ft _ _ (by omega) (by omega), ft _ _ (by omega) (by omega), ft _ _ (by omega) (by omega)]; exact h9 g hg
      · obtain ⟨h1, h2, h3⟩ := h.2.1.2.2.1.cg (D' := badS S f s') (eo 0 3 (by omega)) (fun a b h1 h2 => eo a b (by omega))
        exact ⟨h1, fun i hi => ⟨(ft _ _ (by omega) (by omega)).trans (h2 i hi).1, (ft _ _ (by omega) (by omega)).trans (h2 i hi).2⟩, fun l hl => ⟨(ft _ _ (by omega) (by omega)).trans (h3 l hl).1, (ft _ _ (by omega) (by omega)).trans (h3 l hl).2⟩⟩
      · rw [b10, eC, wI_o (by omega)]; exact q3.1
      · rw [b11, kf, eC, wI_o (by omega)]; exact q3.2.2.1
      · obtain ⟨h1, h2, h3, h4, h5, h6⟩ := h.2.2.1.2.1
        refine ⟨?_, ?_, ?_, ?_, fun i hi => ?_, fun z hz => ?_⟩
        · rw [eo 0 1 (by omega), g' _ _ (by unfold rdX rdM; omega)]; exact h1
        · rw [eo 0 2 (by omega), g' _ _ (by unfold rdX rdM; omega)]; exact h2
        · rw [eo 0 3 (by omega), g' _ _ (by unfold rdX rdM; omega)]; exact h3
        · rw [eo 0 7 (by omega), g' _ _ (by unfold rdX rdM; omega)]; exact h4
        · rw [eo 0 0 (by omega)] at hi
          rw [eo 10 i (by omega), g' _ _ (by unfold rdX rdM; omega)]; exact h5 i hi
        · rw [eo 0 1 (by omega)] at hz
          have := h.1.2.1.1
          rw [eo 11 z (by omega), eo 12 z (by omega), eo 13 z (by omega), g' _ _ (by unfold rdX rdM; omega), g' _ _ (by unfold rdX rdM; omega), g' _ _ (by unfold rdX rdM; omega)]; exact h6 z hz
      · obtain ⟨h1, h2⟩ := h.2.2.1.2.2.1
        have h3 : S 0 3 ≤ 64 := h.1.2.2.1.1
        refine ⟨fun i hi => ?_, fun l hl => ?_⟩
        · rw [eo 0 3 (by omega)] at hi
          rw [eo 40 i (by omega), eo 44 i (by omega), eo 45 i (by omega), g' _ _ (by unfold rdX rdM; omega), g' _ _ (by unfold rdX rdM; omega), g' _ _ (by unfold rdX rdM; omega)]
          exact h1 i hi
        · rw [eo 42 l (by omega), eo 43 l (by omega), g' _ _ (by unfold rdX rdM; omega), g' _ _ (by unfold rdX rdM; omega), g' _ _ (by unfold rdX rdM; omega)]
          exact h2 l hl
      · rw [b10]; exact q4.1
      · rw [b11, kf]; exact q4.2.1
      · rcases hu with e | e
        · rw [e] at zu2; exact zu2
        · have : t = 55 := by omega
          rw [this] at zt2; exact zt2
      · rcases hu with e | e
        · have : t = 78 := by omega
          rw [this] at zt2; exact zt2
        · rw [e] at zu2; exact zu2
      · rw [← eu, fr' _ _ (by omega) (by omega)]; exact ru
  · exact no (Or.inr x1)
end TX2
