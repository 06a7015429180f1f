/-! Tokens: one token more, on both sides. -/
def notLang (v : Nat) : Prop := ∀ w, w < 20 → v ≠ langN w
/-- one token, in the class's words and in the reference's: 0 none left, 1 a word, 2 a number, 3 a sign, 4 one that compares, 5 a wrong one -/
def tok (k v k' v' : Int32) : Nat → Nat → Prop
  | 0, _ => k = 0 ∧ k' = 0
  | 1, a => k = 1 ∧ v = nI a ∧ a < 2 ^ 31 ∧ ((∃ w, w < 20 ∧ a = langN w ∧ k' = 1 ∧ v' = nI w) ∨ (notLang a ∧ k' = 2 ∧ v' = nI a))
  | 2, a => k = 2 ∧ k' = 3 ∧ a ≤ 100000 ∧ v = nI a ∧ ∃ b, v' = nI b ∧ b ≤ 999999 ∧ ((a ≤ 99999 ∧ b = a) ∨ (a = 100000 ∧ 99999 < b))
  | 3, a => k = 3 ∧ k' = 4 ∧ v = nI a ∧ ((a = 17 ∧ v' = 43) ∨ (a = 18 ∧ v' = 45) ∨ (a = 19 ∧ v' = 42) ∨ (a = 20 ∧ v' = 47) ∨ (a = 21 ∧ v' = 40) ∨ (a = 22 ∧ v' = 41) ∨ (a = 23 ∧ v' = 59))
  | 4, a => k = 3 ∧ k' = 5 ∧ a < 6 ∧ v = nI (11 + a) ∧ v' = nI a
  | 5, _ => k = 4 ∧ (k' = 6 ∨ (k' = 4 ∧ v' = 37))
  | _, _ => False
section NEXT
variable {T : Nat → Nat} {E : Nat} {c m : Hp}
/-- behind a token that begins at q: where the next begins to be looked for, what it is -/
def got (c m : Hp) (E q : Nat) (c' m' : Hp) : Prop := ∃ p x a, frT c c' ∧ frU m m' ∧ c'.1 1 3 = nI p ∧ m'.1 0 7 = nI p ∧ q < p ∧ p ≤ E ∧ c'.1 1 4 = c.1 1 4 ∧ m'.1 0 10 = m.1 0 10 ∧ 1 ≤ x ∧ x ≤ 5 ∧ tok (c'.1 1 5) (c'.1 1 6) (m'.1 0 8) (m'.1 0 9) x a
theorem word_both {q : Nat} (h : tap T E c m) (hq : q < E) (hc : c.1 1 3 = nI q) (hm : m.1 0 7 = nI q) (hm2 : m.1 0 10 = nI q) (hv : c.1 1 6 = 0) (hl : isL (T q) = true) : ∃ c' m', f8_takeWord c = some c' ∧ f12_token_90 m = some m' ∧ got c m E q c' m' := by
  have hE := h.1
  obtain ⟨n, hn, hL, hend⟩ := run_ex (fun i => isL (T i)) E (E - q) q (by omega)
  have hL : ∀ i, i < n → isL (T (q + i)) = true := hL
  have n1 : 1 ≤ n := by
    rcases Nat.eq_zero_or_pos n with z | z
    · subst z
      have := hend (by omega)
      have : isL (T (q + 0)) = false := this
      rw [show q + 0 = q by omega, hl] at this; cases this
    · exact z
  -- the class
  have cls : ∃ c', f8_takeWord c = some c' ∧ frT c c' ∧ c'.1 1 3 = nI (q + n) ∧ c'.1 1 4 = c.1 1 4 ∧ ((n ≤ 6 ∧ c'.1 1 5 = 1 ∧ c'.1 1 6 = nI (pkF (flT T q n) 6)) ∨ (6 < n ∧ c'.1 1 5 = 4)) := by
    unfold f8_takeWord f8_takeWord_2
    obtain ⟨⟨a, h1⟩, e, i1, i2, i3, i4, i5⟩ := lp_walk (f := fun z : Int32 × Hp => f8_takeWord_2_s z.1 z.2) (fun j z => z.1 = nI j ∧ z.2.1 1 3 = nI (q + j) ∧ (j ≤ 6 → z.2.1 1 6 = nI (pkF (flT T q j) 6)) ∧ frT c z.2 ∧ z.2.1 1 4 = c.1 1 4) n (0, c) ⟨rfl, hc, fun _ => hv, frT.rf, rfl⟩ (fun j z hj hI => by
      obtain ⟨a, h1⟩ := z
      dsimp only at hI
      obtain ⟨rfl, i2, i3, i4, i5⟩ := hI
      have t1 := h.fr i4 frU.rf
      have hT := h.2.2.2.1 (q + j) (by omega)
      have lj := hL j hj
      have il := isLet t1 (show q + j < E by omega)
      rw [lj] at il
      have il : f8_isLetter (h1.1 2 (q + j)) = some 1 := il
      by_cases q6 : j < 6
      · have hb : h1.1 2 (q + j) = nI (T (q + j)) := by
          rw [(t1.2.2.2.1 (q + j) (by omega)).2.1]
          have lj2 := lj
          unfold isL at lj2
          rw [decide_eq_true_eq] at lj2
          exact (by_all (T (q + j)) hT.1).2.2.2.2 (by omega)
        have e96 : (nI (T (q + j)) - 96 : Int32) = nI (T (q + j) - 96) := by
          have lj2 := lj
          unfold isL at lj2
          rw [decide_eq_true_eq] at lj2
          rw [show (96 : Int32) = nI 96 from rfl]; exact pk_sub (by omega)
        have eo := letter_or (T := T) (q := q) q6 (fun i hi => hL i (by omega)) lj rfl
        have il2 : f8_isLetter (nI (T (q + j))) = some 1 := by rw [← hb]; exact il
        have z3 : (wI h1 1 6 (nI (pkF (flT T q (j + 1)) 6))).1 1 3 = nI (q + j) := (wI_o (by omega)).trans i2
        refine ⟨(nI (j + 1), wI (wI h1 1 6 (nI (pkF (flT T q (j + 1)) 6))) 1 3 (nI (q + (j + 1)))), ?_, rfl, wI_s, fun _ => (wI_o (by omega)).trans wI_s, (i4.w (by omega)).w (by omega), (wI_o (by omega)).trans ((wI_o (by omega)).trans i5)⟩
        simp only [f8_takeWord_2_s, f8_takeWord_62, t1.2.1, i2, nI_ge (show q + j < E by omega) (show E < 2 ^ 31 by omega), if_false, gd, inb_t (show q + j < 700 by omega) (by omega), ix_nI (show q + j < 2 ^ 31 by omega), if_true, il2, Option.bind_some, one_ne, g6 q6, i3 (by omega), hb, e96, eo, lt, z3, nI_1, Nat.add_assoc]
      · have g : (6 : Int32) ≤ nI j := by rw [lit]; exact nI_le (by omega) (by omega)
        refine ⟨(nI (j + 1), wI h1 1 3 (nI (q + (j + 1)))), ?_, rfl, wI_s, fun z => by omega, i4.w (by omega), (wI_o (by omega)).trans i5⟩
        simp only [f8_takeWord_2_s, f8_takeWord_62, t1.2.1, i2, nI_ge (show q + j < E by omega) (show E < 2 ^ 31 by omega), if_false, gd, inb_t (show q + j < 700 by omega) (by omega), ix_nI (show q + j < 2 ^ 31 by omega), if_true, il, Option.bind_some, one_ne, g, lt, nI_1, Nat.add_assoc])
    dsimp only at i1 i2 i3 i4 i5
    subst i1
    have t1 := h.fr i4 frU.rf
    have ef : f8_takeWord_2_s (nI n) h1 = (f8_takeWord_78 (nI n) h1).map (fun z => .inr (z)) := by
      by_cases z : q + n < E
      · have il := isLet t1 z
        have hz : isL (T (q + n)) = false := hend z
        rw [hz] at il
        have il : f8_isLetter (h1.1 2 (q + n)) = some 0 := il
        simp only [f8_takeWord_2_s, t1.2.1, i2, nI_ge z (show E < 2 ^ 31 by omega), if_false, gd, inb_t (show q + n < 700 by omega) (by omega), ix_nI (show q + n < 2 ^ 31 by omega), if_true, il, Option.bind_some]
      · simp only [f8_takeWord_2_s, t1.2.1, i2, nI_le (show E ≤ q + n by omega) (show q + n < 2 ^ 31 by omega), if_true]
    by_cases q6 : n ≤ 6
    · have g : nI n ≤ (6 : Int32) := by rw [lit]; exact nI_le q6 (by omega)
      refine ⟨wI h1 1 5 1, ?_, i4.w (by omega), (wI_o (by omega)).trans i2, (wI_o (by omega)).trans i5, Or.inl ⟨q6, wI_s, (wI_o (by omega)).trans (i3 q6)⟩⟩
      rw [e]
      refine lp_inr (o := some _) (ef.trans ?_)
      simp only [f8_takeWord_78, f8_takeWord_90, g, if_true, lt]
    · have g : ¬ nI n ≤ (6 : Int32) := by rw [lit]; exact nI_ge (by omega) (by omega)
      refine ⟨wI h1 1 5 4, ?_, i4.w (by omega), (wI_o (by omega)).trans i2, (wI_o (by omega)).trans i5, Or.inr ⟨by omega, wI_s⟩⟩
      rw [e]
      refine lp_inr (o := some _) (ef.trans ?_)
      simp only [f8_takeWord_78, f8_takeWord_90, g, if_false, lt]
  -- the reference
  have ref1 : ∃ m1, f12_token_90 m = f12_token_114 m1 ∧ frU m m1 ∧ m1.1 0 7 = nI (q + n) ∧ m1.1 0 10 = nI q := by
    unfold f12_token_90
    obtain ⟨h1, e, i1, i2, i3⟩ := lp_walk (f := fun z : Hp => f12_token_90_s z) (fun j z => z.1 0 7 = nI (q + j) ∧ frU m z ∧ z.1 0 10 = nI q) n m ⟨hm, frU.rf, hm2⟩ (fun j z hj hI => by
      obtain ⟨i1, i2, i3⟩ := hI
      have t1 := h.fr frT.rf i2
      have il := isSm t1 (show q + j ≤ E by omega)
      rw [hL j hj, decide_eq_true (show q + j < E by omega)] at il
      have il : f12_isSmall (nI (q + j)) z = some 1 := il
      refine ⟨wI z 0 7 (nI (q + (j + 1))), ?_, wI_s, i2.w (by omega), (wI_o (by omega)).trans i3⟩
      simp only [f12_token_90_s, i1, il, Option.bind_some, one_ne, if_false, lt, nI_1, Nat.add_assoc])
    refine ⟨h1, ?_, i2, i1, i3⟩
    rw [e]
    refine lp_inr ?_
    have t1 := h.fr frT.rf i2
    have il := isSm t1 (show q + n ≤ E by omega)
    have hz : (decide (q + n < E) && isL (T (q + n))) = false := by
      by_cases z : q + n < E
      · rw [hend z, Bool.and_false]
      · rw [decide_eq_false z]; rfl
    rw [hz] at il
    have il : f12_isSmall (nI (q + n)) h1 = some 0 := il
    simp only [f12_token_90_s, i1, il, Option.bind_some, if_true]
  obtain ⟨c', ec, fc, c3, c4, ck⟩ := cls
  obtain ⟨m1, em, f1, m7, m10⟩ := ref1
  have t1 := h.fr frT.rf f1
  have edif : nI (q + n) - nI q = nI n := by rw [pk_sub (by omega)]; congr 1; omega
  rcases ck with ⟨n6, k5, k6⟩ | ⟨n6, k5⟩
  · have hlt : pkF (flT T q n) 6 < 2 ^ 31 := by
      have := pkF_lt (f := flT T q n) 6 (fun i _ => flT_lt hL i)
      omega
    by_cases key : ∃ w, w < 20 ∧ pkF (flT T q n) 6 = langN w
    · obtain ⟨w, hw, ew⟩ := key
      have ek := wordAt_key t1 hn n6 hL hw ew
      have z9 : ¬ nI w < (0 : Int32) := nI_pos (by omega)
      refine ⟨c', wI (wI m1 0 9 (nI w)) 0 8 1, ec, ?_, q + n, 1, pkF (flT T q n) 6, fc, (f1.w (by omega)).w (by omega), c3, (wI_o (by omega)).trans ((wI_o (by omega)).trans m7), by omega, hn, c4, (wI_o (by omega)).trans ((wI_o (by omega)).trans (m10.trans hm2.symm)), by omega, by omega, k5, k6, hlt, Or.inl ⟨w, hw, ew, wI_s, (wI_o (by omega)).trans wI_s⟩⟩
      rw [em]
      simp only [f12_token_114, m7, m10, ek, Option.bind_some, lt, wI_s, z9, if_false, f12_token_162, show ((1 : Int32) = 2) = False from by decide]
    · have hno : ∀ w, w < 20 → ¬ mtch T q n w := fun w hw z => key ⟨w, hw, (mtch_iff n6 hL hw).mp z⟩
      have ek := wordAt_no t1 hn hno
      have t2 : tap T E c (wI (wI m1 0 9 (-1)) 0 8 2) := h.fr frT.rf ((f1.w (by omega)).w (by omega))
      have ep := packed_eq t2 hn hL
      have y7 : (wI m1 0 9 (-1)).1 0 7 = nI (q + n) := (wI_o (by omega)).trans m7
      have y10 : (wI m1 0 9 (-1)).1 0 10 = nI q := (wI_o (by omega)).trans m10
      have x7 : (wI (wI m1 0 9 (-1)) 0 8 2).1 0 7 = nI (q + n) := (wI_o (by omega)).trans y7
      have x10 : (wI (wI m1 0 9 (-1)) 0 8 2).1 0 10 = nI q := (wI_o (by omega)).trans y10
      have g6' : nI n ≤ (6 : Int32) := by rw [lit]; exact nI_le n6 (by omega)
      refine ⟨c', wI (wI (wI m1 0 9 (-1)) 0 8 2) 0 9 (nI (pkF (flT T q n) 6)), ec, ?_, q + n, 1, pkF (flT T q n) 6, fc, ((f1.w (by omega)).w (by omega)).w (by omega), c3, (wI_o (by omega)).trans x7, by omega, hn, c4, (wI_o (by omega)).trans (x10.trans hm2.symm), by omega, by omega, k5, k6, hlt, Or.inr ⟨fun w hw z => key ⟨w, hw, z⟩, (wI_o (by omega)).trans wI_s, wI_s⟩⟩
      rw [em]
      simp only [f12_token_114, m7, m10, ek, Option.bind_some, lt, wI_s, show ((-1 : Int32) < 0) = True from by decide, if_true, y7, y10, edif, g6', f12_token_162, x7, x10, ep]
  · have hno : ∀ w, w < 20 → ¬ mtch T q n w := fun w hw z => by
      have := (lang_all w hw).2.2.1
      have := z.1
      omega
    have ek := wordAt_no t1 hn hno
    have y7 : (wI m1 0 9 (-1)).1 0 7 = nI (q + n) := (wI_o (by omega)).trans m7
    have y10 : (wI m1 0 9 (-1)).1 0 10 = nI q := (wI_o (by omega)).trans m10
    have g6' : ¬ nI n ≤ (6 : Int32) := by rw [lit]; exact nI_ge n6 (by omega)
    refine ⟨c', wI (wI m1 0 9 (-1)) 0 8 6, ec, ?_, q + n, 5, 0, fc, (f1.w (by omega)).w (by omega), c3, (wI_o (by omega)).trans y7, by omega, hn, c4, (wI_o (by omega)).trans (y10.trans hm2.symm), by omega, by omega, k5, Or.inl wI_s⟩
    rw [em]
    simp only [f12_token_114, m7, m10, ek, Option.bind_some, lt, wI_s, show ((-1 : Int32) < 0) = True from by decide, if_true, y7, y10, edif, g6', if_false, f12_token_162, show ((6 : Int32) = 2) = False from by decide]
end NEXT
