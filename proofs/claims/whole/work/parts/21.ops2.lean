/-! like, quote, duet, merriest. -/
theorem g8 {j : Nat} (h : j < 8) : ¬ (8 : Int32) ≤ nI j := by rw [lit]; exact nI_ge h (by omega)
theorem l8 : (8 : Int32) ≤ nI 8 := by rw [lit]; exact nI_le (Nat.le_refl 8) (by omega)
theorem op_like {S : Sp} {c m : Hp} (w : wfNow S) (hC : nowC S c) (hM : nowM S m) (x y z : Int32) : ∃ r c' m', f11_like x y z c = some (r, c') ∧ f12_like x y z m = some (r, m') ∧ frC c c' ∧ frM m m' := by
  have hn := w.1
  obtain ⟨m0', em, fr0⟩ := m0_ex m
  have hM0 := hM.fr w fr0
  obtain ⟨m1, e1, f1, p58, p59, p60, p61, p62, pf, pj⟩ := plain_ex m0'
  have fr := fr0.tr f1
  have hM1 := hM.fr w fr
  obtain ⟨c1, ec, l⟩ := listen_ex w hC
  simp only [f11_like, f12_like, em, lt, isBoxC, isBoxM, isWithin_eq, isIn_eq, hC.1, hM0.1, Option.bind_some, e1, ec]
  rcases bi_cases x (S 0 0) (by omega) with h | ⟨i, hi, rfl, h⟩
  · simp only [h, if_true]; exact ⟨_, _, _, rfl, rfl, frC.rf, fr0⟩
  · rcases bi_cases y (S 0 0) (by omega) with h2 | ⟨j, hj, rfl, h2⟩
    · simp only [h, h2, if_true, one_ne, if_false]; exact ⟨_, _, _, rfl, rfl, frC.rf, fr0⟩
    · rcases wi_cases z 0 1 (by omega) (by omega) with h3 | ⟨k, -, hk, rfl, h3⟩
      · simp only [h, h2, show wi z 0 1 = 0 from h3, if_true, one_ne, if_false]; exact ⟨_, _, _, rfl, rfl, frC.rf, fr0⟩
      · simp only [h, h2, show wi (nI k) 0 1 = 1 from h3, one_ne, if_false, f11_like_44, f12_like_42]
        have key := lp_sim (f := fun z : Int32 × Int32 => f11_like_44_s (nI i) (nI j) (nI k) z.1 z.2 c1) (g := fun z : Int32 × Int32 => f12_like_42_s (nI i) (nI j) (nI k) z.1 z.2 m1) (Q := fun r r' => ∃ v, r = (v, c1) ∧ r' = (v, m1)) (I := fun n s s' => ∃ b t, b < 8 ∧ t ≤ 8 ∧ n = 8 - t ∧ s = s' ∧ s = (nI b, nI t)) ?_ 7 (0, 1) (0, 1) ⟨0, 1, by omega, by omega, rfl, rfl, rfl⟩
        · obtain ⟨r, r', e, e', v, rfl, rfl⟩ := key
          exact ⟨v, c1, m1, e, e', l.fr, fr⟩
        · rintro n s _ ⟨b, t, hb, ht, hnt, rfl, rfl⟩
          by_cases he : t = 8
          · subst he
            by_cases hk0 : k = 0
            · subst hk0
              refine ⟨.inr (nI b, c1), .inr (nI b, m1), ?_, ?_, nI b, rfl, rfl⟩
              · simp only [f11_like_44_s, f11_like_86, l8, if_true, show (nI 0 : Int32) = 0 from rfl, Option.map_some]
              · simp only [f12_like_42_s, f12_like_83, l8, if_true, show (nI 0 : Int32) = 0 from rfl, Option.map_some]
            · have hz : ¬ nI k = 0 := nI_ne0 (by omega) (by omega)
              refine ⟨.inr (nI (alk (hS S) i j b), c1), .inr (nI (alk (hS S) i j b), m1), ?_, ?_, _, rfl, rfl⟩
              · simp only [f11_like_44_s, f11_like_86, l8, if_true, hz, if_false, alikeByC l.ear hn hi hj hb, Option.bind_some, Option.map_some]
              · simp only [f12_like_42_s, f12_like_83, l8, if_true, hz, if_false, alikeByM w hM1 p61 hi hj hb, Option.bind_some, Option.map_some]
          · have ht8 : t < 8 := by omega
            by_cases q : nI (alk (hS S) i j t) ≤ nI (alk (hS S) i j b)
            · refine ⟨.inl (nI b, nI (t + 1)), .inl (nI b, nI (t + 1)), ?_, ?_, 8 - (t + 1), by omega, b, t + 1, hb, by omega, rfl, rfl, rfl⟩
              · simp only [f11_like_44_s, f11_like_80, g8 ht8, if_false, alikeByC l.ear hn hi hj hb, alikeByC l.ear hn hi hj ht8, Option.bind_some, q, if_true, nI_1]
              · simp only [f12_like_42_s, f12_like_75, g8 ht8, if_false, alikeByM w hM1 p61 hi hj hb, alikeByM w hM1 p61 hi hj ht8, Option.bind_some, q, if_true, nI_1]
            · refine ⟨.inl (nI t, nI (t + 1)), .inl (nI t, nI (t + 1)), ?_, ?_, 8 - (t + 1), by omega, t, t + 1, ht8, by omega, rfl, rfl, rfl⟩
              · simp only [f11_like_44_s, f11_like_80, g8 ht8, if_false, alikeByC l.ear hn hi hj hb, alikeByC l.ear hn hi hj ht8, Option.bind_some, q, nI_1]
              · simp only [f12_like_42_s, f12_like_75, g8 ht8, if_false, alikeByM w hM1 p61 hi hj hb, alikeByM w hM1 p61 hi hj ht8, Option.bind_some, q, nI_1]
theorem quote_3 {S : Sp} {c m : Hp} {a b i k : Nat} (w : wfNow S) (hE : ear S c) (hM : nowM S m) (hp : m.1 0 61 = 0) (ha : a < S 0 0) (hb : b < S 0 0) (hi : i < 8) (hk : k < 8) (v : Int32) : ∃ u, f2_longestRun_25 (nI a) (nI b) v (nI i) (nI k) 0 c = some (.inl (u, nI (k + 1))) ∧ f12_quote_57 (nI a) (nI b) v (nI i) (nI k) 0 m = some (.inl (u, nI (k + 1))) := by
  have hn := w.1
  have key := lp_sim (f := fun z : Int32 => f2_longestRun_25_s (nI a) (nI b) v (nI i) (nI k) z c) (g := fun z : Int32 => f12_quote_57_s (nI a) (nI b) v (nI i) (nI k) z m) (Q := fun r r' => ∃ u, r = .inl (u, nI (k + 1)) ∧ r' = .inl (u, nI (k + 1))) (I := fun n s s' => ∃ j, j ≤ 8 ∧ n = 8 - j ∧ s = s' ∧ s = nI j) ?_ 8 0 0 ⟨0, by omega, rfl, rfl, rfl⟩
  · obtain ⟨r, r', e, e', u, rfl, rfl⟩ := key
    exact ⟨u, e, e'⟩
  · rintro n s _ ⟨j, hj, hnj, rfl, rfl⟩
    have hex : ∃ u, f2_longestRun_70 (nI a) (nI b) v (nI i) (nI k) (nI j) c = some (.inl (u, nI (k + 1))) ∧ f12_quote_122 (nI a) (nI b) v (nI i) (nI k) (nI j) m = some (.inl (u, nI (k + 1))) := by
      by_cases q : v < nI j
      · refine ⟨nI j, ?_, ?_⟩
        · simp only [f2_longestRun_70, lt, q, if_true, nI_1]
        · simp only [f12_quote_122, f12_quote_134, Int32.not_le.mpr q, if_false, nI_1]
      · refine ⟨v, ?_, ?_⟩
        · simp only [f2_longestRun_70, lt, q, if_false, nI_1]
        · simp only [f12_quote_122, f12_quote_134, Int32.not_lt.mp q, if_true, nI_1]
    obtain ⟨u, x1, x2⟩ := hex
    by_cases h1 : 8 ≤ i + j
    · have g1 : (8 : Int32) ≤ nI i + nI j := by rw [nI_add, lit]; exact nI_le h1 (by omega)
      refine ⟨.inr (.inl (u, nI (k + 1))), .inr (.inl (u, nI (k + 1))), ?_, ?_, u, rfl, rfl⟩
      · simp only [f2_longestRun_25_s, g1, if_true, x1, Option.map_some]
      · simp only [f12_quote_57_s, g1, if_true, x2, Option.map_some]
    · have g1 : ¬ (8 : Int32) ≤ nI i + nI j := by rw [nI_add]; exact g8 (by omega)
      by_cases h2 : 8 ≤ k + j
      · have g2 : (8 : Int32) ≤ nI k + nI j := by rw [nI_add, lit]; exact nI_le h2 (by omega)
        refine ⟨.inr (.inl (u, nI (k + 1))), .inr (.inl (u, nI (k + 1))), ?_, ?_, u, rfl, rfl⟩
        · simp only [f2_longestRun_25_s, g1, if_false, g2, if_true, x1, Option.map_some]
        · simp only [f12_quote_57_s, g1, if_false, g2, if_true, x2, Option.map_some]
      · have g2 : ¬ (8 : Int32) ≤ nI k + nI j := by rw [nI_add]; exact g8 (by omega)
        have b1 := hS_le S a (i + j)
        have b2 := hS_le S b (k + j)
        have z1 := heardIn_nI (i := a) (k := i + j) w hM ha (by omega) hp
        have z2 := heardIn_nI (i := b) (k := k + j) w hM hb (by omega) hp
        have z3 := sameAbove_eq (a := a) (k := i + j) (b := b) (j := k + j) hE hn ha (by omega) hb (by omega)
        have hm : f12_quote_57_s (nI a) (nI b) v (nI i) (nI k) (nI j) m = if sb (hS S) a (i + j) b (k + j) = true then some (.inl (nI (j + 1))) else some (.inr (.inl (u, nI (k + 1)))) := by
          simp only [f12_quote_57_s, nI_add, g8 (show i + j < 8 by omega), g8 (show k + j < 8 by omega), if_false, z1, z2, Option.bind_some, x2, Option.map_some, nI_1]
          simp (disch := omega) only [lit, nI_leI, nI_eq]
          rw [ite_sb]
        have hc : f2_longestRun_25_s (nI a) (nI b) v (nI i) (nI k) (nI j) c = if sb (hS S) a (i + j) b (k + j) = true then some (.inl (nI (j + 1))) else some (.inr (.inl (u, nI (k + 1)))) := by
          simp only [f2_longestRun_25_s, nI_add, g8 (show i + j < 8 by omega), g8 (show k + j < 8 by omega), if_false, z3, Option.bind_some, x1, Option.map_some, nI_1]
          rcases Bool.eq_false_or_eq_true (sb (hS S) a (i + j) b (k + j)) with q | q <;> simp [q]
        rcases Bool.eq_false_or_eq_true (sb (hS S) a (i + j) b (k + j)) with q | q
        · rw [q, if_pos rfl] at hm hc
          exact ⟨_, _, hc, hm, 8 - (j + 1), by omega, j + 1, by omega, rfl, rfl, rfl⟩
        · rw [q, if_neg (by decide)] at hm hc
          exact ⟨_, _, hc, hm, u, rfl, rfl⟩
theorem quote_2 {S : Sp} {c m : Hp} {a b i : Nat} (w : wfNow S) (hE : ear S c) (hM : nowM S m) (hp : m.1 0 61 = 0) (ha : a < S 0 0) (hb : b < S 0 0) (hi : i < 8) (v : Int32) : ∃ u, f2_longestRun_15 (nI a) (nI b) v (nI i) 0 c = some (.inl (u, nI (i + 1))) ∧ f12_quote_47 (nI a) (nI b) v (nI i) 0 m = some (.inl (u, nI (i + 1))) := by
  have key := lp_sim (f := fun z : Int32 × Int32 => f2_longestRun_15_s (nI a) (nI b) z.1 (nI i) z.2 c) (g := fun z : Int32 × Int32 => f12_quote_47_s (nI a) (nI b) z.1 (nI i) z.2 m) (Q := fun r r' => ∃ u, r = .inl (u, nI (i + 1)) ∧ r' = .inl (u, nI (i + 1))) (I := fun n s s' => ∃ u j, j ≤ 8 ∧ n = 8 - j ∧ s = s' ∧ s = (u, nI j)) ?_ 8 (v, 0) (v, 0) ⟨v, 0, by omega, rfl, rfl, rfl⟩
  · obtain ⟨r, r', e, e', u, rfl, rfl⟩ := key
    exact ⟨u, e, e'⟩
  · rintro n s _ ⟨u, j, hj, hnj, rfl, rfl⟩
    by_cases he : j = 8
    · subst he
      refine ⟨.inr (.inl (u, nI (i + 1))), .inr (.inl (u, nI (i + 1))), ?_, ?_, u, rfl, rfl⟩
      · simp only [f2_longestRun_15_s, f2_longestRun_83, l8, if_true, Option.map_some, nI_1]
      · simp only [f12_quote_47_s, f12_quote_141, l8, if_true, Option.map_some, nI_1]
    · have hj8 : j < 8 := by omega
      obtain ⟨u', e1, e2⟩ := quote_3 (k := j) w hE hM hp ha hb hi hj8 u
      refine ⟨.inl (u', nI (j + 1)), .inl (u', nI (j + 1)), ?_, ?_, 8 - (j + 1), by omega, u', j + 1, by omega, rfl, rfl, rfl⟩
      · simp only [f2_longestRun_15_s, g8 hj8, if_false, e1]
      · simp only [f12_quote_47_s, g8 hj8, if_false, e2]
theorem quote_1 {S : Sp} {c m : Hp} {a b : Nat} (w : wfNow S) (hE : ear S c) (hM : nowM S m) (hp : m.1 0 61 = 0) (ha : a < S 0 0) (hb : b < S 0 0) : ∃ u, f2_longestRun (nI a) (nI b) c = some u ∧ f12_quote_37 (nI a) (nI b) 0 0 m = some (u, m) := by
  have key := lp_sim (f := fun z : Int32 × Int32 => f2_longestRun_5_s (nI a) (nI b) z.1 z.2 c) (g := fun z : Int32 × Int32 => f12_quote_37_s (nI a) (nI b) z.1 z.2 m) (Q := fun r r' => r' = (r, m)) (I := fun n s s' => ∃ u j, j ≤ 8 ∧ n = 8 - j ∧ s = s' ∧ s = (u, nI j)) ?_ 8 (0, 0) (0, 0) ⟨0, 0, by omega, rfl, rfl, rfl⟩
  · obtain ⟨r, r', e, e', rfl⟩ := key
    exact ⟨r, e, e'⟩
  · rintro n s _ ⟨u, j, hj, hnj, rfl, rfl⟩
    by_cases he : j = 8
    · subst he
      refine ⟨.inr u, .inr (u, m), ?_, ?_, rfl⟩
      · simp only [f2_longestRun_5_s, l8, if_true]
      · simp only [f12_quote_37_s, l8, if_true]
    · have hj8 : j < 8 := by omega
      obtain ⟨u', e1, e2⟩ := quote_2 (i := j) w hE hM hp ha hb hj8 u
      refine ⟨.inl (u', nI (j + 1)), .inl (u', nI (j + 1)), ?_, ?_, 8 - (j + 1), by omega, u', j + 1, by omega, rfl, rfl, rfl⟩
      · simp only [f2_longestRun_5_s, g8 hj8, if_false, e1]
      · simp only [f12_quote_37_s, g8 hj8, if_false, e2]
theorem op_quote {S : Sp} {c m : Hp} (w : wfNow S) (hC : nowC S c) (hM : nowM S m) (x y : Int32) : ∃ r c' m', f11_quote x y c = some (r, c') ∧ f12_quote x y m = some (r, m') ∧ frC c c' ∧ frM m m' := by
  have hn := w.1
  obtain ⟨m0', em, fr0⟩ := m0_ex m
  have hM0 := hM.fr w fr0
  obtain ⟨m1, e1, f1, p58, p59, p60, p61, p62, pf, pj⟩ := plain_ex m0'
  have fr := fr0.tr f1
  have hM1 := hM.fr w fr
  obtain ⟨c1, ec, l⟩ := listen_ex w hC
  simp only [f11_quote, f12_quote, em, lt, isBoxC, isBoxM, hC.1, hM0.1, Option.bind_some, e1, ec]
  rcases bi_cases x (S 0 0) (by omega) with h | ⟨i, hi, rfl, h⟩
  · simp only [h, if_true]; exact ⟨_, _, _, rfl, rfl, frC.rf, fr0⟩
  · rcases bi_cases y (S 0 0) (by omega) with h2 | ⟨j, hj, rfl, h2⟩
    · simp only [h, h2, if_true, one_ne, if_false]; exact ⟨_, _, _, rfl, rfl, frC.rf, fr0⟩
    · by_cases hij : nI i = nI j
      · simp only [h, h2, one_ne, if_false, hij, if_true]; exact ⟨_, _, _, rfl, rfl, frC.rf, fr0⟩
      · obtain ⟨u, e1, e2⟩ := quote_1 w l.ear hM1 p61 hi hj
        simp only [h, h2, one_ne, if_false, hij, e1, e2, Option.bind_some]; exact ⟨_, _, _, rfl, rfl, l.fr, fr⟩
theorem div8 {t s : Nat} (ht : t < 2000) (h1 : 1 ≤ s) (h2 : s ≤ 9) : (nI t / nI s - nI t / nI s / 8 * 8 : Int32) = nI (t / s % 8) := by
  rw [pk_div (by omega) (by omega) (by omega), lit]
  have := Nat.div_le_self t s
  exact pk_rem (by omega) (by omega) (by omega)
theorem nz_dec {s : Nat} (h1 : 1 ≤ s) (h2 : s ≤ 9) : (!decide (nI s = 0)) = true := by
  rw [decide_eq_false (nI_ne0 (by omega) (by omega))]; rfl
theorem op_duet {S : Sp} {c m : Hp} (w : wfNow S) (hC : nowC S c) (hM : nowM S m) (x y : Int32) : ∃ r c' m', f11_duet x y c = some (r, c') ∧ f12_duet x y m = some (r, m') ∧ frC c c' ∧ frM m m' := by
  have hn := w.1
  obtain ⟨m0', em, fr0⟩ := m0_ex m
  have hM0 := hM.fr w fr0
  obtain ⟨m1, e1, f1, p58, p59, p60, p61, p62, pf, pj⟩ := plain_ex m0'
  have fr := fr0.tr f1
  have hM1 := hM.fr w fr
  obtain ⟨c1, ec, l⟩ := listen_ex w hC
  have hC1 := hC.fr w l.fr
  simp only [f11_duet, f12_duet, em, lt, isBoxC, isBoxM, hC.1, hM0.1, Option.bind_some, e1, ec]
  rcases bi_cases x (S 0 0) (by omega) with h | ⟨i, hi, rfl, h⟩
  · simp only [h, if_true]; exact ⟨_, _, _, rfl, rfl, frC.rf, fr0⟩
  · rcases bi_cases y (S 0 0) (by omega) with h2 | ⟨j, hj, rfl, h2⟩
    · simp only [h, h2, if_true, one_ne, if_false]; exact ⟨_, _, _, rfl, rfl, frC.rf, fr0⟩
    · by_cases hij : nI i = nI j
      · simp only [h, h2, one_ne, if_false, hij, if_true]; exact ⟨_, _, _, rfl, rfl, frC.rf, fr0⟩
      · have s1 := (w.2.2.2.2 i hi).1
        have s2 := (w.2.2.2.2 j hj).1
        have k1 : ¬ nI (S 1 i) < (1 : Int32) := by rw [lit]; exact nI_nlt (by omega) (by omega)
        have k2 : (1 : Int32) ≤ nI (S 1 j) := by rw [lit]; exact nI_le (by omega) (by omega)
        simp only [h, h2, one_ne, if_false, hij, gd, inb_t (show i < 6 by omega) (by omega), inb_t (show j < 6 by omega) (by omega), if_true, ix_nI (show i < 2 ^ 31 by omega), ix_nI (show j < 2 ^ 31 by omega), (hC1.2.2.2.2 i hi).1, (hC1.2.2.2.2 j hj).1, f2_firstMinute, k1, k2, f2_firstMinute_17, f12_duet_34]
        have key := lp_sim (f := fun z : Int32 => f2_firstMinute_17_s (nI i) (nI (S 1 i)) (nI j) (nI (S 1 j)) z c1) (g := fun z : Int32 => f12_duet_34_s (nI i) (nI j) z m1) (Q := fun r r' => r' = (r, m1)) (I := fun n s s' => ∃ t, t ≤ 1000 ∧ n = 1000 - t ∧ s = s' ∧ s = nI t) ?_ 1000 0 0 ⟨0, by omega, rfl, rfl, rfl⟩
        · obtain ⟨r, r', e, e', rfl⟩ := key
          have e : lp (fun z : Int32 => f2_firstMinute_17_s (nI i) (nI (S 1 i)) (nI j) (nI (S 1 j)) z c1) 0 = some r := e
          have e' : lp (fun z : Int32 => f12_duet_34_s (nI i) (nI j) z m1) 0 = some (r, m1) := e'
          simp only [e, e', Option.bind_some]
          exact ⟨r, c1, m1, rfl, rfl, l.fr, fr⟩
        · rintro n s _ ⟨t, ht, hnt, rfl, rfl⟩
          by_cases he : t = 1000
          · subst he
            have g : (999 : Int32) < nI 1000 := by rw [lit]; exact nI_lt (by omega) (by omega)
            refine ⟨.inr (-2), .inr (-2, m1), ?_, ?_, rfl⟩
            · simp only [f2_firstMinute_17_s, g, if_true]
            · simp only [f12_duet_34_s, g, if_true]
          · have g : ¬ (999 : Int32) < nI t := by rw [lit]; exact nI_nlt (by omega) (by omega)
            have z1 := heardIn_nI (i := i) (k := t / S 1 i % 8) w hM1 hi (by omega) p61
            have z2 := heardIn_nI (i := j) (k := t / S 1 j % 8) w hM1 hj (by omega) p61
            have z3 := sameAbove_eq (a := i) (k := t / S 1 i % 8) (b := j) (j := t / S 1 j % 8) l.ear hn hi (by omega) hj (by omega)
            have b1 := hS_le S i (t / S 1 i % 8)
            have b2 := hS_le S j (t / S 1 j % 8)
            have hm : f12_duet_34_s (nI i) (nI j) (nI t) m1 = if sb (hS S) i (t / S 1 i % 8) j (t / S 1 j % 8) = true then some (.inr (nI t, m1)) else some (.inl (nI (t + 1))) := by
              simp only [f12_duet_34_s, f12_duet_89, g, if_false, gd, inb_t (show i < 12 by omega) (by omega), inb_t (show j < 12 by omega) (by omega), if_true, ix_nI (show i < 2 ^ 31 by omega), ix_nI (show j < 2 ^ 31 by omega), (hM1.2.2.2.2 i hi).1, (hM1.2.2.2.2 j hj).1, nz_dec s1.1 s1.2, nz_dec s2.1 s2.2, div8 (show t < 2000 by omega) s1.1 s1.2, div8 (show t < 2000 by omega) s2.1 s2.2, z1, z2, Option.bind_some, nI_1]
              simp (disch := omega) only [lit, nI_leI, nI_eq]
              rw [ite_sb]
            have hc : f2_firstMinute_17_s (nI i) (nI (S 1 i)) (nI j) (nI (S 1 j)) (nI t) c1 = if sb (hS S) i (t / S 1 i % 8) j (t / S 1 j % 8) = true then some (.inr (nI t)) else some (.inl (nI (t + 1))) := by
              simp only [f2_firstMinute_17_s, g, if_false, gd, if_true, nz_dec s1.1 s1.2, nz_dec s2.1 s2.2, div8 (show t < 2000 by omega) s1.1 s1.2, div8 (show t < 2000 by omega) s2.1 s2.2, z3, Option.bind_some, nI_1]
              rcases Bool.eq_false_or_eq_true (sb (hS S) i (t / S 1 i % 8) j (t / S 1 j % 8)) with q | q <;> simp [q]
            rcases Bool.eq_false_or_eq_true (sb (hS S) i (t / S 1 i % 8) j (t / S 1 j % 8)) with q | q
            · rw [q, if_pos rfl] at hm hc
              exact ⟨_, _, hc, hm, rfl⟩
            · rw [q, if_neg (by decide)] at hm hc
              exact ⟨_, _, hc, hm, 1000 - (t + 1), by omega, t + 1, by omega, rfl, rfl, rfl⟩
theorem op_merriest {S : Sp} {c m : Hp} (w : wfNow S) (hC : nowC S c) (hM : nowM S m) : ∃ r m', f11_merriest c = some r ∧ f12_merriest m = some (r, m') ∧ frM m m' := by
  have hn := w.1
  have hy := w.2.1
  obtain ⟨m1, em, fr⟩ := m0_ex m
  have hM1 := hM.fr w fr
  simp only [f11_merriest, f12_merriest, em, lt, f11_merriest_7, f12_merriest_10]
  have key := lp_sim (f := fun z : Int32 × Int32 × Int32 => f11_merriest_7_s z.1 z.2.1 z.2.2 c) (g := fun z : Int32 × Int32 => f12_merriest_10_s z.1 z.2 m1) (Q := fun r r' => r' = (r, m1)) (I := fun n s s' => ∃ j, j ≤ S 0 0 ∧ n = S 0 0 - j ∧ ((s = (-2, 0, nI j) ∧ s' = (-2, nI j)) ∨ ∃ b, b < j ∧ 0 < S 9 b ∧ s = (nI b, nI (S 9 b), nI j) ∧ s' = (nI b, nI j))) ?_ (S 0 0) (-2, 0, 0) (-2, 0) ⟨0, by omega, rfl, Or.inl ⟨rfl, rfl⟩⟩
  · obtain ⟨r, r', e, e', rfl⟩ := key
    exact ⟨r, m1, e, e', fr⟩
  · rintro n s s' ⟨j, hj, hnj, h⟩
    by_cases he : j = S 0 0
    · subst he
      rcases h with ⟨rfl, rfl⟩ | ⟨b, hb, hpos, rfl, rfl⟩
      · refine ⟨.inr (-2), .inr (-2, m1), ?_, ?_, rfl⟩
        · simp only [f11_merriest_7_s, hC.1, nI_le (Nat.le_refl (S 0 0)) (show S 0 0 < 2 ^ 31 by omega), if_true]
        · simp only [f12_merriest_10_s, hM1.1, nI_le (Nat.le_refl (S 0 0)) (show S 0 0 < 2 ^ 31 by omega), if_true]
      · refine ⟨.inr (nI b), .inr (nI b, m1), ?_, ?_, rfl⟩
        · simp only [f11_merriest_7_s, hC.1, nI_le (Nat.le_refl (S 0 0)) (show S 0 0 < 2 ^ 31 by omega), if_true]
        · simp only [f12_merriest_10_s, hM1.1, nI_le (Nat.le_refl (S 0 0)) (show S 0 0 < 2 ^ 31 by omega), if_true]
    · have hlt : j < S 0 0 := by omega
      have b7 := (hC.2.2.2.2 j hlt).2.2.2.2.2.2.1
      have b6 := (hM1.2.2.2.2 j hlt).2.2.2.2.2.1
      have wj := (w.2.2.2.2 j hlt).2.2.2.2.2.2.2.1
      have step : ∀ (d : Nat), S 0 0 - (j + 1) < n := fun _ => by omega
      rcases h with ⟨rfl, rfl⟩ | ⟨b, hb, hpos, rfl, rfl⟩
      · by_cases q : S 9 j ≤ 0
        · refine ⟨.inl (-2, 0, nI (j + 1)), .inl (-2, nI (j + 1)), ?_, ?_, S 0 0 - (j + 1), by omega, j + 1, by omega, rfl, Or.inl ⟨rfl, rfl⟩⟩
          · have q' : nI (S 9 j) ≤ (0 : Int32) := by rw [lit]; exact nI_le q (by omega)
            simp only [f11_merriest_7_s, f11_merriest_49, hC.1, nI_ge hlt (show S 0 0 < 2 ^ 31 by omega), if_false, gd, inb_t (show j < 6 by omega) (by omega), if_true, ix_nI (show j < 2 ^ 31 by omega), b7, q', nI_1]
          · have q' : nI (S 9 j) ≤ (0 : Int32) := by rw [lit]; exact nI_le q (by omega)
            simp only [f12_merriest_10_s, f12_merriest_50, f12_merriest_51, hM1.1, nI_ge hlt (show S 0 0 < 2 ^ 31 by omega), if_false, gd, inb_t (show j < 12 by omega) (by omega), if_true, ix_nI (show j < 2 ^ 31 by omega), b6, q', nI_1]
        · have q' : ¬ nI (S 9 j) ≤ (0 : Int32) := by rw [lit]; exact nI_ge (by omega) (by omega)
          refine ⟨.inl (nI j, nI (S 9 j), nI (j + 1)), .inl (nI j, nI (j + 1)), ?_, ?_, S 0 0 - (j + 1), by omega, j + 1, by omega, rfl, Or.inr ⟨j, by omega, by omega, rfl, rfl⟩⟩
          · simp only [f11_merriest_7_s, f11_merriest_49, lt, hC.1, nI_ge hlt (show S 0 0 < 2 ^ 31 by omega), if_false, gd, inb_t (show j < 6 by omega) (by omega), if_true, ix_nI (show j < 2 ^ 31 by omega), b7, q', nI_1]
          · simp only [f12_merriest_10_s, f12_merriest_46, f12_merriest_51, hM1.1, nI_ge hlt (show S 0 0 < 2 ^ 31 by omega), if_false, gd, inb_t (show j < 12 by omega) (by omega), if_true, ix_nI (show j < 2 ^ 31 by omega), b6, q', nI_1, show ((-2 : Int32) < 0) = True from by decide]
      · have wb := (w.2.2.2.2 b (by omega)).2.2.2.2.2.2.2.1
        have b6b := (hM1.2.2.2.2 b (by omega)).2.2.2.2.2.1
        by_cases q : S 9 j ≤ S 9 b
        · have q' : nI (S 9 j) ≤ nI (S 9 b) := nI_le q (by omega)
          refine ⟨.inl (nI b, nI (S 9 b), nI (j + 1)), .inl (nI b, nI (j + 1)), ?_, ?_, S 0 0 - (j + 1), by omega, j + 1, by omega, rfl, Or.inr ⟨b, by omega, hpos, rfl, rfl⟩⟩
          · simp only [f11_merriest_7_s, f11_merriest_49, hC.1, nI_ge hlt (show S 0 0 < 2 ^ 31 by omega), if_false, gd, inb_t (show j < 6 by omega) (by omega), if_true, ix_nI (show j < 2 ^ 31 by omega), b7, q', nI_1]
          · by_cases q0 : nI (S 9 j) ≤ (0 : Int32)
            · simp only [f12_merriest_10_s, f12_merriest_50, f12_merriest_51, hM1.1, nI_ge hlt (show S 0 0 < 2 ^ 31 by omega), if_false, gd, inb_t (show j < 12 by omega) (by omega), if_true, ix_nI (show j < 2 ^ 31 by omega), b6, q0, nI_1]
            · simp only [f12_merriest_10_s, f12_merriest_50, f12_merriest_51, hM1.1, nI_ge hlt (show S 0 0 < 2 ^ 31 by omega), if_false, gd, inb_t (show j < 12 by omega) (by omega), inb_t (show b < 12 by omega) (by omega), if_true, ix_nI (show j < 2 ^ 31 by omega), ix_nI (show b < 2 ^ 31 by omega), b6, b6b, q0, q', nI_1, nI_pos (show b < 2 ^ 31 by omega)]
        · have q' : ¬ nI (S 9 j) ≤ nI (S 9 b) := nI_ge (by omega) (by omega)
          have q0 : ¬ nI (S 9 j) ≤ (0 : Int32) := by rw [lit]; exact nI_ge (by omega) (by omega)
          refine ⟨.inl (nI j, nI (S 9 j), nI (j + 1)), .inl (nI j, nI (j + 1)), ?_, ?_, S 0 0 - (j + 1), by omega, j + 1, by omega, rfl, Or.inr ⟨j, by omega, by omega, rfl, rfl⟩⟩
          · simp only [f11_merriest_7_s, f11_merriest_49, lt, hC.1, nI_ge hlt (show S 0 0 < 2 ^ 31 by omega), if_false, gd, inb_t (show j < 6 by omega) (by omega), if_true, ix_nI (show j < 2 ^ 31 by omega), b7, q', nI_1]
          · simp only [f12_merriest_10_s, f12_merriest_46, f12_merriest_51, hM1.1, nI_ge hlt (show S 0 0 < 2 ^ 31 by omega), if_false, gd, inb_t (show j < 12 by omega) (by omega), inb_t (show b < 12 by omega) (by omega), if_true, ix_nI (show j < 2 ^ 31 by omega), ix_nI (show b < 2 ^ 31 by omega), b6, b6b, q0, q', nI_1, nI_pos (show b < 2 ^ 31 by omega)]
