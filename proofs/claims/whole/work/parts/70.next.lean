/-! Tokens: the next one. -/
/-- the token that is looked at: begins at s, p behind it -/
def tks (T : Nat → Nat) (E p s x a : Nat) (c m : Hp) : Prop := tap T E c m ∧ c.1 1 3 = nI p ∧ m.1 0 7 = nI p ∧ c.1 1 4 = nI s ∧ m.1 0 10 = nI s ∧ s ≤ p ∧ p ≤ E ∧ tok (c.1 1 5) (c.1 1 6) (m.1 0 8) (m.1 0 9) x a ∧ x ≤ 5 ∧ (x = 0 ↔ s = E) ∧ (x ≠ 0 → s < p)
section NEXT3
variable {T : Nat → Nat} {E : Nat}
theorem skip_ex : ∀ (d p : Nat) (c m : Hp), p + d = E → tap T E c m → c.1 1 3 = nI p → m.1 0 7 = nI p → ∃ q c1 m1, lp (fun z : Hp => f8_next_0_s z) c = f8_next_52 c1 ∧ lp (fun z : Hp => f12_token_0_s z) m = f12_token_52 m1 ∧ frT c c1 ∧ frU m m1 ∧ c1.1 1 3 = nI q ∧ m1.1 0 7 = nI q ∧ p ≤ q ∧ q ≤ E
  | 0, p, c, m, hp, h, hc, hm => by
    have hE := h.1
    refine ⟨p, c, m, lp_inr ?_, lp_inr ?_, frT.rf, frU.rf, hc, hm, Nat.le_refl _, by omega⟩
    · simp only [f8_next_0_s, h.2.1, hc, nI_le (show E ≤ p by omega) (show p < 2 ^ 31 by omega), if_true]
    · simp only [f12_token_0_s, h.2.2.1, hm, nI_le (show E ≤ p by omega) (show p < 2 ^ 31 by omega), if_true]
  | d + 1, p, c, m, hp, h, hc, hm => by
    have hE := h.1
    obtain ⟨t1, t2, t3⟩ := h.2.2.2.1 p (by omega)
    obtain ⟨-, -, b1, b2, -⟩ := by_all (T p) t1
    have b1 : (by8 (T p) = 10) ↔ T p = 10 := by rw [← decide_eq_decide]; exact b1
    have b2 : (by8 (T p) = 32) ↔ T p = 32 := by rw [← decide_eq_decide]; exact b2
    have n1 : (nI (T p) = (10 : Int32)) ↔ T p = 10 := by rw [show (10 : Int32) = nI 10 from rfl]; exact nI_eq (by omega) (by omega)
    have n2 : (nI (T p) = (32 : Int32)) ↔ T p = 32 := by rw [show (32 : Int32) = nI 32 from rfl]; exact nI_eq (by omega) (by omega)
    have go : ¬ (T p ≠ 10 ∧ T p ≠ 32) → f8_next_0_s c = some (.inl (wI c 1 3 (nI (p + 1)))) → f12_token_0_s m = some (.inl (wI m 0 7 (nI (p + 1)))) → ∃ q c1 m1, lp (fun z : Hp => f8_next_0_s z) c = f8_next_52 c1 ∧ lp (fun z : Hp => f12_token_0_s z) m = f12_token_52 m1 ∧ frT c c1 ∧ frU m m1 ∧ c1.1 1 3 = nI q ∧ m1.1 0 7 = nI q ∧ p ≤ q ∧ q ≤ E := by
      intro _ e1 e2
      have fc : frT c (wI c 1 3 (nI (p + 1))) := frT.rf.w (by omega)
      have fm : frU m (wI m 0 7 (nI (p + 1))) := frU.rf.w (by omega)
      obtain ⟨q, c1, m1, a1, a2, a3, a4, a5, a6, a7, a8⟩ := skip_ex d (p + 1) _ _ (by omega) (h.fr fc fm) wI_s wI_s
      exact ⟨q, c1, m1, (lp_inl e1).trans a1, (lp_inl e2).trans a2, fc.tr a3, fm.tr a4, a5, a6, by omega, a8⟩
    by_cases q1 : T p = 10
    · refine go (by omega) ?_ ?_
      · simp only [f8_next_0_s, f8_next_39, h.2.1, hc, nI_ge (show p < E by omega) (show E < 2 ^ 31 by omega), if_false, gd, inb_t (show p < 700 by omega) (by omega), ix_nI (show p < 2 ^ 31 by omega), if_true, t2, b1.mpr q1, lt, nI_1]
      · simp only [f12_token_0_s, f12_token_39, h.2.2.1, hm, nI_ge (show p < E by omega) (show E < 2 ^ 31 by omega), if_false, gd, inb_t (show p < 700 by omega) (by omega), ix_nI (show p < 2 ^ 31 by omega), if_true, t3, n1.mpr q1, lt, nI_1]
    · have c1 : (by8 (T p) = 10) = False := eq_false (fun e => q1 (b1.mp e))
      have m1 : (nI (T p) = (10 : Int32)) = False := eq_false (fun e => q1 (n1.mp e))
      by_cases q2 : T p = 32
      · have c2 : (by8 (T p) = 32) = True := eq_true (b2.mpr q2)
        have m2 : (nI (T p) = (32 : Int32)) = True := eq_true (n2.mpr q2)
        refine go (by omega) ?_ ?_
        · simp only [f8_next_0_s, f8_next_39, h.2.1, hc, nI_ge (show p < E by omega) (show E < 2 ^ 31 by omega), if_false, gd, inb_t (show p < 700 by omega) (by omega), ix_nI (show p < 2 ^ 31 by omega), if_true, t2, c1, c2, lt, nI_1]
        · simp only [f12_token_0_s, f12_token_39, h.2.2.1, hm, nI_ge (show p < E by omega) (show E < 2 ^ 31 by omega), if_false, gd, inb_t (show p < 700 by omega) (by omega), ix_nI (show p < 2 ^ 31 by omega), if_true, t3, m1, m2, lt, nI_1]
      · have c2 : (by8 (T p) = 32) = False := eq_false (fun e => q2 (b2.mp e))
        have m2 : (nI (T p) = (32 : Int32)) = False := eq_false (fun e => q2 (n2.mp e))
        refine ⟨p, c, m, lp_inr ?_, lp_inr ?_, frT.rf, frU.rf, hc, hm, Nat.le_refl _, by omega⟩
        · simp only [f8_next_0_s, h.2.1, hc, nI_ge (show p < E by omega) (show E < 2 ^ 31 by omega), if_false, gd, inb_t (show p < 700 by omega) (by omega), ix_nI (show p < 2 ^ 31 by omega), if_true, t2, c1, c2]
        · simp only [f12_token_0_s, h.2.2.1, hm, nI_ge (show p < E by omega) (show E < 2 ^ 31 by omega), if_false, gd, inb_t (show p < 700 by omega) (by omega), ix_nI (show p < 2 ^ 31 by omega), if_true, t3, m1, m2]
theorem next_both {p : Nat} {c m : Hp} (h : tap T E c m) (hc : c.1 1 3 = nI p) (hm : m.1 0 7 = nI p) (hp : p ≤ E) : ∃ c' m' p' s' x a, f8_next c = some c' ∧ f12_token m = some m' ∧ tks T E p' s' x a c' m' ∧ p ≤ s' ∧ frT c c' ∧ frU m m' := by
  have hE := h.1
  obtain ⟨q, c1, m1, a1, a2, a3, a4, a5, a6, a7, a8⟩ := skip_ex (E - p) p c m (by omega) h hc hm
  unfold f8_next f8_next_0 f12_token f12_token_0
  rw [a1, a2]
  obtain ⟨c2, e2⟩ : ∃ c2, c2 = wI (wI c1 1 4 (nI q)) 1 6 0 := ⟨_, rfl⟩
  obtain ⟨m2, f2⟩ : ∃ m2, m2 = wI m1 0 10 (nI q) := ⟨_, rfl⟩
  have FC : frT c c2 := by rw [e2]; exact (a3.w (by omega)).w (by omega)
  have FM : frU m m2 := by rw [f2]; exact a4.w (by omega)
  have t2 := h.fr FC FM
  have k3 : c2.1 1 3 = nI q := by rw [e2, wI_o (by omega), wI_o (by omega)]; exact a5
  have k4 : c2.1 1 4 = nI q := by rw [e2, wI_o (by omega), wI_s]
  have k6 : c2.1 1 6 = 0 := by rw [e2, wI_s]
  have k7 : m2.1 0 7 = nI q := by rw [f2, wI_o (by omega)]; exact a6
  have k10 : m2.1 0 10 = nI q := by rw [f2, wI_s]
  have fin : ∀ c' m', got c2 m2 E q c' m' → q < E → ∃ p' s' x a, tks T E p' s' x a c' m' ∧ p ≤ s' ∧ frT c c' ∧ frU m m' := by
    rintro c' m' ⟨p', x, a, g1, g2, g3, g4, g5, g6, g7, g8, g9, g10, g11⟩ hq
    exact ⟨p', q, x, a, ⟨t2.fr g1 g2, g3, g4, g7.trans k4, g8.trans k10, by omega, g6, g11, g10, ⟨fun z => by omega, fun z => by omega⟩, fun _ => g5⟩, a7, FC.tr g1, FM.tr g2⟩
  have u4 : (wI c1 1 4 (c1.1 1 3)).1 1 3 = nI q := (wI_o (by omega)).trans a5
  have e52 : f8_next_52 c1 = if q < E then ((f8_isLetter (c2.1 2 q)).bind fun r6 => if r6 = 0 then ((f8_isDigit (c2.1 2 q)).bind fun r9 => if r9 = 0 then ((f8_takeSign c2).bind fun h11 => some (h11)) else ((f8_takeDigits c2).bind fun h12 => some (h12))) else ((f8_takeWord c2).bind fun h13 => some (h13))) else some (wI c2 1 5 0) := by
    have k2 := t2.2.1
    simp only [f8_next_52, lt, a5, ← e2, k3, k2]
    by_cases z : q < E
    · rw [if_pos z, if_pos (nI_lt z (by omega))]
      simp only [gd, inb_t (show q < 700 by omega) (by omega), ix_nI (show q < 2 ^ 31 by omega), if_true]
    · rw [if_neg z, if_neg (nI_nlt (by omega) (by omega))]
  have f52 : f12_token_52 m1 = if q = E then some (wI m2 0 8 0) else ((f12_isSmall (nI q) m2).bind fun r4 => if r4 = 0 then ((f12_isDigit (nI q) m2).bind fun r6 => if r6 = 0 then ((f12_signToken m2).bind fun h8 => some (h8)) else f12_token_213 (wI (wI m2 0 8 3) 0 9 0)) else (f12_token_90 m2)) := by
    have k2 := t2.2.2.1
    simp only [f12_token_52, lt, a6, ← f2, k7, k2]
    by_cases z : q = E
    · rw [if_pos z, if_pos (by rw [z])]
    · rw [if_neg z, if_neg (by rw [nI_eq (by omega) (by omega)]; exact z)]
  rw [e52, f52]
  by_cases hq : q < E
  · have hqe : ¬ q = E := by omega
    rw [if_pos hq, if_neg hqe, isLet t2 hq, isSm t2 a8, decide_eq_true hq, Bool.true_and, Option.bind_some, Option.bind_some]
    cases hl : isL (T q) with
    | true =>
      obtain ⟨c', m', x1, x2, x3⟩ := word_both t2 hq k3 k7 k10 k6 hl
      obtain ⟨p', s', x, a, y1, y2, y3, y4⟩ := fin c' m' x3 hq
      refine ⟨c', m', p', s', x, a, ?_, ?_, y1, y2, y3, y4⟩
      · rw [if_neg (by decide), x1]; rfl
      · rw [if_neg (by decide)]; exact x2
    | false =>
      rw [if_pos (by rfl), if_pos (by rfl), isDig t2 hq, isDg t2 a8, decide_eq_true hq, Bool.true_and, Option.bind_some, Option.bind_some]
      cases hd : isD (T q) with
      | true =>
        obtain ⟨c', m', x1, x2, x3⟩ := num_both t2 hq k3 k7 k10 k6 hd
        obtain ⟨p', s', x, a, y1, y2, y3, y4⟩ := fin c' m' x3 hq
        refine ⟨c', m', p', s', x, a, ?_, ?_, y1, y2, y3, y4⟩
        · rw [if_neg (by decide), x1]; rfl
        · rw [if_neg (by decide)]; exact x2
      | false =>
        obtain ⟨c', m', x1, x2, x3⟩ := sign_both t2 hq k3 k7
        obtain ⟨p', s', x, a, y1, y2, y3, y4⟩ := fin c' m' x3 hq
        refine ⟨c', m', p', s', x, a, ?_, ?_, y1, y2, y3, y4⟩
        · rw [if_pos (by rfl), x1]; rfl
        · rw [if_pos (by rfl), x2]; rfl
  · have hqe : q = E := by omega
    rw [if_neg hq, if_pos hqe]
    refine ⟨wI c2 1 5 0, wI m2 0 8 0, q, q, 0, 0, rfl, rfl, ⟨t2.fr (frT.rf.w (by omega)) (frU.rf.w (by omega)), (wI_o (by omega)).trans k3, (wI_o (by omega)).trans k7, (wI_o (by omega)).trans k4, (wI_o (by omega)).trans k10, Nat.le_refl _, a8, ⟨wI_s, wI_s⟩, by omega, ⟨fun _ => hqe, fun _ => rfl⟩, fun z => absurd rfl z⟩, a7, FC.tr (frT.rf.w (by omega)), FM.tr (frU.rf.w (by omega))⟩
end NEXT3
