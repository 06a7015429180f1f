/-! Tokens: numbers and signs; the next token. -/
section NEXT2
variable {T : Nat → Nat} {E : Nat} {c m : Hp}
def nRel (a b : Nat) : Prop := a ≤ 100000 ∧ b ≤ 999999 ∧ ((a ≤ 99999 ∧ b = a) ∨ (a = 100000 ∧ 99999 < b))
theorem num_both {q : Nat} (h : tap T E c m) (hq : q < E) (hc : c.1 1 3 = nI q) (hm : m.1 0 7 = nI q) (hm2 : m.1 0 10 = nI q) (hv : c.1 1 6 = 0) (hl : isD (T q) = true) : ∃ c' m', f8_takeDigits c = some c' ∧ f12_token_213 (wI (wI m 0 8 3) 0 9 0) = some m' ∧ got c m E q c' m' := by
  have hE := h.1
  obtain ⟨n, hn, hL, hend⟩ := run_ex (fun i => isD (T i)) E (E - q) q (by omega)
  have hL : ∀ i, i < n → isD (T (q + i)) = true := hL
  have n1 : 1 ≤ n := by
    rcases Nat.eq_zero_or_pos n with z | z
    · subst z
      have := hend (by omega)
      have : isD (T (q + 0)) = false := this
      rw [show q + 0 = q by omega, hl] at this; cases this
    · exact z
  simp only [f8_takeDigits, lt, f8_takeDigits_5, f12_token_213]
  have key : ∀ d j (h1 h2 : Hp) a b, j + d = n → frT c h1 → frU m h2 → h1.1 1 3 = nI (q + j) → h2.1 0 7 = nI (q + j) → h1.1 1 4 = c.1 1 4 → h2.1 0 10 = m.1 0 10 → h1.1 1 5 = 2 → h2.1 0 8 = 3 → h1.1 1 6 = nI a → h2.1 0 9 = nI b → nRel a b → ∃ c' m', lp (fun z : Hp => f8_takeDigits_5_s z) h1 = some c' ∧ lp (fun z : Hp => f12_token_213_s z) h2 = some m' ∧ got c m E q c' m' := by
    intro d
    induction d with
    | zero =>
      intro j h1 h2 a b hj fc fm k3 k7 k4 k10 k5 k8 k6 k9 hr
      have hj : j = n := by omega
      subst hj
      obtain ⟨r1, r2, r3⟩ := hr
      refine ⟨h1, h2, lp_inr (o := some _) ?_, lp_inr (o := some _) ?_, q + j, 2, a, fc, fm, k3, k7, by omega, hn, k4, k10, by omega, by omega, k5, k8, r1, k6, b, k9, r2, r3⟩
      · have t1 := h.fr fc fm
        by_cases z : q + j < E
        · have il := isDig t1 z
          have hz : isD (T (q + j)) = false := hend z
          rw [hz] at il
          have il : f8_isDigit (h1.1 2 (q + j)) = some 0 := il
          simp only [f8_takeDigits_5_s, t1.2.1, k3, nI_ge z (show E < 2 ^ 31 by omega), if_false, gd, inb_t (show q + j < 700 by omega) (by omega), ix_nI (show q + j < 2 ^ 31 by omega), if_true, il, Option.bind_some, Option.map_some]
        · simp only [f8_takeDigits_5_s, t1.2.1, k3, nI_le (show E ≤ q + j by omega) (show q + j < 2 ^ 31 by omega), if_true, Option.map_some]
      · have t1 := h.fr fc fm
        have il := isDg t1 (show q + j ≤ E by omega)
        have hz : (decide (q + j < E) && isD (T (q + j))) = false := by
          by_cases z : q + j < E
          · rw [hend z, Bool.and_false]
          · rw [decide_eq_false z]; rfl
        rw [hz] at il
        have il : f12_isDigit (nI (q + j)) h2 = some 0 := il
        simp only [f12_token_213_s, k7, il, Option.bind_some, if_true, Option.map_some]
    | succ d ih =>
      intro j h1 h2 a b hj fc fm k3 k7 k4 k10 k5 k8 k6 k9 hr
      have t1 := h.fr fc fm
      obtain ⟨hT1, hT2, hT3⟩ := t1.2.2.2.1 (q + j) (by omega)
      have lj := hL j (by omega)
      have il := isDig t1 (show q + j < E by omega)
      have il' := isDg t1 (show q + j ≤ E by omega)
      rw [lj, decide_eq_true (show q + j < E by omega)] at il'
      rw [lj] at il
      have il' : f12_isDigit (nI (q + j)) h2 = some 1 := il'
      have lj2 := lj
      unfold isD at lj2
      rw [decide_eq_true_eq] at lj2
      have hb : h1.1 2 (q + j) = nI (T (q + j)) := by rw [hT2]; exact (by_all (T (q + j)) hT1).2.2.2.2 (by omega)
      rw [hb] at il
      have il : f8_isDigit (nI (T (q + j))) = some 1 := il
      obtain ⟨r1, r2, r3⟩ := hr
      have ea : (nI a * 10 + nI (T (q + j)) - 48 : Int32) = nI (10 * a + (T (q + j) - 48)) := by
        rw [show (10 : Int32) = nI 10 from rfl, show (48 : Int32) = nI 48 from rfl, pk_mul, nI_add, pk_sub (by omega)]; congr 1; omega
      have eb : (10 * nI b + nI (T (q + j)) - 48 : Int32) = nI (10 * b + (T (q + j) - 48)) := by
        rw [show (10 : Int32) = nI 10 from rfl, show (48 : Int32) = nI 48 from rfl, pk_mul, nI_add, pk_sub (by omega)]; congr 1; omega
      have em : (if nI (10 * a + (T (q + j) - 48)) < (100000 : Int32) then nI (10 * a + (T (q + j) - 48)) else 100000 : Int32) = nI (min 100000 (10 * a + (T (q + j) - 48))) := by
        rw [show (100000 : Int32) = nI 100000 from rfl]
        by_cases z : 10 * a + (T (q + j) - 48) < 100000
        · rw [if_pos (nI_lt z (by omega)), show min 100000 (10 * a + (T (q + j) - 48)) = 10 * a + (T (q + j) - 48) by omega]
        · rw [if_neg (nI_nlt (by omega) (by omega)), show min 100000 (10 * a + (T (q + j) - 48)) = 100000 by omega]
      have z3 : ∀ v, (wI h1 1 6 v).1 1 3 = nI (q + j) := fun v => (wI_o (by omega)).trans k3
      have z7 : ∀ v, (wI h2 0 9 v).1 0 7 = nI (q + j) := fun v => (wI_o (by omega)).trans k7
      have st1 : f8_takeDigits_5_s h1 = some (.inl (wI (wI h1 1 6 (nI (min 100000 (10 * a + (T (q + j) - 48))))) 1 3 (nI (q + (j + 1))))) := by
        simp only [f8_takeDigits_5_s, t1.2.1, k3, nI_ge (show q + j < E by omega) (show E < 2 ^ 31 by omega), if_false, gd, inb_t (show q + j < 700 by omega) (by omega), ix_nI (show q + j < 2 ^ 31 by omega), if_true, hb, il, Option.bind_some, one_ne, k6, ea, em, lt, z3, nI_1, Nat.add_assoc]
      have st2 : ∃ b', f12_token_213_s h2 = some (.inl (wI (wI h2 0 9 (nI b')) 0 7 (nI (q + (j + 1))))) ∧ nRel (min 100000 (10 * a + (T (q + j) - 48))) b' := by
        have l99 : (nI b ≤ (99999 : Int32)) ↔ b ≤ 99999 := by rw [show (99999 : Int32) = nI 99999 from rfl]; exact nI_leI (by omega) (by omega)
        by_cases z : b ≤ 99999
        · refine ⟨10 * b + (T (q + j) - 48), ?_, ?_⟩
          · simp only [f12_token_213_s, f12_token_261, k7, il', Option.bind_some, one_ne, if_false, k9, l99.mpr z, if_true, gd, inb_t (show q + j < 700 by omega) (by omega), ix_nI (show q + j < 2 ^ 31 by omega), hT3, eb, lt, z7, nI_1, Nat.add_assoc]
          · unfold nRel; omega
        · refine ⟨b, ?_, ?_⟩
          · have : ¬ nI b ≤ (99999 : Int32) := fun e => z (l99.mp e)
            simp only [f12_token_213_s, f12_token_261, k7, il', Option.bind_some, one_ne, if_false, k9, this, lt, z7, nI_1, Nat.add_assoc]
          · unfold nRel; omega
      obtain ⟨b', st2, hr'⟩ := st2
      obtain ⟨c', m', e1, e2, g⟩ := ih (j + 1) _ _ _ b' (by omega) ((fc.w (k := 6) (by omega)).w (k := 3) (by omega)) ((fm.w (k := 9) (by omega)).w (k := 7) (by omega)) wI_s wI_s ((wI_o (by omega)).trans ((wI_o (by omega)).trans k4)) ((wI_o (by omega)).trans ((wI_o (by omega)).trans k10)) ((wI_o (by omega)).trans ((wI_o (by omega)).trans k5)) ((wI_o (by omega)).trans ((wI_o (by omega)).trans k8)) ((wI_o (by omega)).trans wI_s) ((wI_o (by omega)).trans wI_s) hr'
      exact ⟨c', m', (lp_inl st1).trans e1, (lp_inl st2).trans e2, g⟩
  exact key n 0 (wI c 1 5 2) (wI (wI m 0 8 3) 0 9 0) 0 0 (by omega) (frT.rf.w (by omega)) ((frU.rf.w (by omega)).w (by omega)) ((wI_o (by omega)).trans hc) ((wI_o (by omega)).trans ((wI_o (by omega)).trans hm)) (wI_o (by omega)) ((wI_o (by omega)).trans (wI_o (by omega))) wI_s ((wI_o (by omega)).trans wI_s) ((wI_o (by omega)).trans hv) wI_s (by unfold nRel; omega)
theorem sgn_all : ∀ n, n < 256 → f8_signOf (by8 n) = some (if n = 40 then 21 else if n = 41 then 22 else if n = 42 then 19 else if n = 43 then 17 else if n = 45 then 18 else if n = 47 then 20 else if n = 59 then 23 else if n = 60 then 11 else if n = 61 then 13 else if n = 62 then 16 else -1) ∧ decide (by8 n = 61) = decide (n = 61) ∧ decide (by8 n = 62) = decide (n = 62) := by decide +kernel
theorem sign_both {q : Nat} (h : tap T E c m) (hq : q < E) (hc : c.1 1 3 = nI q) (hm : m.1 0 7 = nI q) : ∃ c' m', f8_takeSign c = some c' ∧ f12_signToken m = some m' ∧ got c m E q c' m' := by
  have hE := h.1
  obtain ⟨hT1, hT2, hT3⟩ := h.2.2.2.1 q hq
  -- the sign behind
  obtain ⟨x, hx, exC, exM⟩ : ∃ x, (x < 256 ∧ (61 ≤ x → q + 1 < E)) ∧ f8_takeSign c = f8_takeSign_44 (by8 (T q)) (by8 x) (wI c 1 3 (nI (q + 1))) ∧ f12_signToken_50 (wI (wI m 0 9 (nI (T q))) 0 7 (nI (q + 1))) = f12_signToken_74 (nI x) (wI (wI m 0 9 (nI (T q))) 0 7 (nI (q + 1))) := by
    have y2 : (wI c 1 3 (nI (q + 1))).1 1 2 = nI E := (wI_o (by omega)).trans h.2.1
    have y6 : (wI (wI m 0 9 (nI (T q))) 0 7 (nI (q + 1))).1 0 6 = nI E := (wI_o (by omega)).trans ((wI_o (by omega)).trans h.2.2.1)
    by_cases z : q + 1 < E
    · obtain ⟨b1, b2, b3⟩ := h.2.2.2.1 (q + 1) z
      have y3 : (wI c 1 3 (nI (q + 1))).1 2 (q + 1) = by8 (T (q + 1)) := (wI_o (by omega)).trans b2
      have y4 : (wI (wI m 0 9 (nI (T q))) 0 7 (nI (q + 1))).1 1 (q + 1) = nI (T (q + 1)) := (wI_o (by omega)).trans ((wI_o (by omega)).trans b3)
      refine ⟨T (q + 1), ⟨b1, fun _ => z⟩, ?_, ?_⟩
      · simp only [f8_takeSign, gd, hc, inb_t (show q < 700 by omega) (by omega), ix_nI (show q < 2 ^ 31 by omega), if_true, hT2, lt, nI_1, wI_s, y2, nI_ge z (show E < 2 ^ 31 by omega), if_false, inb_t (show q + 1 < 700 by omega) (by omega), ix_nI (show q + 1 < 2 ^ 31 by omega), y3]
      · simp only [f12_signToken_50, y6, wI_s, nI_ge z (show E < 2 ^ 31 by omega), if_false, gd, inb_t (show q + 1 < 700 by omega) (by omega), ix_nI (show q + 1 < 2 ^ 31 by omega), if_true, y4]
    · refine ⟨0, ⟨by omega, fun e => by omega⟩, ?_, ?_⟩
      · simp only [f8_takeSign, gd, hc, inb_t (show q < 700 by omega) (by omega), ix_nI (show q < 2 ^ 31 by omega), if_true, hT2, lt, nI_1, wI_s, y2, nI_le (show E ≤ q + 1 by omega) (show q + 1 < 2 ^ 31 by omega)]
        rfl
      · simp only [f12_signToken_50, y6, wI_s, nI_le (show E ≤ q + 1 by omega) (show q + 1 < 2 ^ 31 by omega), if_true]
        rfl
  obtain ⟨x1, x2⟩ := hx
  obtain ⟨g1, -, -⟩ := sgn_all (T q) hT1
  obtain ⟨-, g2, g3⟩ := sgn_all x x1
  have g2 : (by8 x = 61) ↔ x = 61 := by rw [← decide_eq_decide]; exact g2
  have g3 : (by8 x = 62) ↔ x = 62 := by rw [← decide_eq_decide]; exact g3
  have m2 : (nI x = (61 : Int32)) ↔ x = 61 := by rw [show (61 : Int32) = nI 61 from rfl]; exact nI_eq (by omega) (by omega)
  have m3 : (nI x = (62 : Int32)) ↔ x = 62 := by rw [show (62 : Int32) = nI 62 from rfl]; exact nI_eq (by omega) (by omega)
  have n7 : (wI m 0 9 (nI (T q))).1 0 7 = nI q := (wI_o (by omega)).trans hm
  have n9 : (wI (wI m 0 9 (nI (T q))) 0 7 (nI (q + 1))).1 0 9 = nI (T q) := (wI_o (by omega)).trans wI_s
  have FC : frT c (wI c 1 3 (nI (q + 1))) := frT.rf.w (by omega)
  have FM : frU m (wI (wI m 0 9 (nI (T q))) 0 7 (nI (q + 1))) := (frU.rf.w (by omega)).w (by omega)
  have o7 : (wI (wI m 0 9 (nI (T q))) 0 7 (nI (q + 1))).1 0 7 = nI (q + 1) := wI_s
  have o10 : (wI (wI m 0 9 (nI (T q))) 0 7 (nI (q + 1))).1 0 10 = m.1 0 10 := (wI_o (by omega)).trans (wI_o (by omega))
  have c3 : (wI c 1 3 (nI (q + 1))).1 1 3 = nI (q + 1) := wI_s
  have c4 : (wI c 1 3 (nI (q + 1))).1 1 4 = c.1 1 4 := wI_o (by omega)
  have eM : ∀ M0, M0 = wI (wI m 0 9 (nI (T q))) 0 7 (nI (q + 1)) → f12_signToken m = if nI (T q) = 60 then f12_signToken_50 M0 else (if nI (T q) = 62 then f12_signToken_50 M0 else (if nI (T q) = 61 then f12_signToken_50 M0 else (if nI (T q) = 59 then f12_signToken_270 M0 else (if nI (T q) = 40 then f12_signToken_270 M0 else (if nI (T q) = 41 then f12_signToken_270 M0 else (if nI (T q) = 43 then f12_signToken_270 M0 else (if nI (T q) = 45 then f12_signToken_270 M0 else (if nI (T q) = 42 then f12_signToken_270 M0 else (if nI (T q) = 47 then f12_signToken_270 M0 else (if nI (T q) = 37 then f12_signToken_270 M0 else (f12_signToken_275 0 M0))))))))))) := by
    intro M0 e
    subst e
    simp only [f12_signToken, gd, hm, inb_t (show q < 700 by omega) (by omega), ix_nI (show q < 2 ^ 31 by omega), if_true, hT3, lt, n7, nI_1, n9]
  obtain ⟨C0, eC⟩ : ∃ C0, C0 = wI c 1 3 (nI (q + 1)) := ⟨_, rfl⟩
  obtain ⟨M0, eM0⟩ : ∃ M0, M0 = wI (wI m 0 9 (nI (T q))) 0 7 (nI (q + 1)) := ⟨_, rfl⟩
  have eM := eM M0 eM0
  rw [← eC] at exC FC c3 c4
  rw [← eM0] at exM FM n9 o7 o10
  have eT : T q = T q := rfl
  generalize T q = t at eM g1 exC n9 hT1
  have simple : ∀ (s k : Int32) (xx a : Nat), f8_signOf (by8 t) = some s → s ≠ 11 → s ≠ 16 → f12_signToken m = some (wI M0 0 8 k) → tok (if s = -1 then 4 else 3) s k (nI t) xx a → 1 ≤ xx → xx ≤ 5 → ∃ c' m', f8_takeSign c = some c' ∧ f12_signToken m = some m' ∧ got c m E q c' m' := by
    intro s k xx a h1 h2 h3 h4 h5 h6 h7
    refine ⟨wI (wI C0 1 6 s) 1 5 (if s = -1 then 4 else 3), wI M0 0 8 k, ?_, h4, q + 1, xx, a, (FC.w (by omega)).w (by omega), FM.w (by omega), (wI_o (by omega)).trans ((wI_o (by omega)).trans c3), (wI_o (by omega)).trans o7, by omega, by omega, (wI_o (by omega)).trans ((wI_o (by omega)).trans c4), (wI_o (by omega)).trans o10, h6, h7, ?_⟩
    · rw [exC]
      simp only [f8_takeSign_44, h1, Option.bind_some, lt, wI_s, h2, if_false, f8_takeSign_87, f8_takeSign_121, h3, f8_takeSign_152, f8_takeSign_166]
      split <;> rfl
    · rw [wI_s, wI_s, show (wI (wI C0 1 6 s) 1 5 (if s = -1 then 4 else 3)).1 1 6 = s from (wI_o (by omega)).trans wI_s, show (wI M0 0 8 k).1 0 9 = nI t from (wI_o (by omega)).trans n9]
      exact h5
  by_cases q40 : t = 40
  · subst q40
    rw [if_neg (by decide), if_neg (by decide), if_neg (by decide), if_neg (by decide), if_pos (by decide)] at eM
    exact simple 21 4 3 21 g1 (by decide) (by decide) eM ⟨by decide, rfl, rfl, Or.inr (Or.inr (Or.inr (Or.inr (Or.inl ⟨rfl, rfl⟩))))⟩ (by omega) (by omega)
  by_cases q41 : t = 41
  · subst q41
    rw [if_neg (by decide), if_neg (by decide), if_neg (by decide), if_neg (by decide), if_neg (by decide), if_pos (by decide)] at eM
    exact simple 22 4 3 22 g1 (by decide) (by decide) eM ⟨by decide, rfl, rfl, Or.inr (Or.inr (Or.inr (Or.inr (Or.inr (Or.inl ⟨rfl, rfl⟩)))))⟩ (by omega) (by omega)
  by_cases q42 : t = 42
  · subst q42
    rw [if_neg (by decide), if_neg (by decide), if_neg (by decide), if_neg (by decide), if_neg (by decide), if_neg (by decide), if_neg (by decide), if_neg (by decide), if_pos (by decide)] at eM
    exact simple 19 4 3 19 g1 (by decide) (by decide) eM ⟨by decide, rfl, rfl, Or.inr (Or.inr (Or.inl ⟨rfl, rfl⟩))⟩ (by omega) (by omega)
  by_cases q43 : t = 43
  · subst q43
    rw [if_neg (by decide), if_neg (by decide), if_neg (by decide), if_neg (by decide), if_neg (by decide), if_neg (by decide), if_pos (by decide)] at eM
    exact simple 17 4 3 17 g1 (by decide) (by decide) eM ⟨by decide, rfl, rfl, Or.inl ⟨rfl, rfl⟩⟩ (by omega) (by omega)
  by_cases q45 : t = 45
  · subst q45
    rw [if_neg (by decide), if_neg (by decide), if_neg (by decide), if_neg (by decide), if_neg (by decide), if_neg (by decide), if_neg (by decide), if_pos (by decide)] at eM
    exact simple 18 4 3 18 g1 (by decide) (by decide) eM ⟨by decide, rfl, rfl, Or.inr (Or.inl ⟨rfl, rfl⟩)⟩ (by omega) (by omega)
  by_cases q47 : t = 47
  · subst q47
    rw [if_neg (by decide), if_neg (by decide), if_neg (by decide), if_neg (by decide), if_neg (by decide), if_neg (by decide), if_neg (by decide), if_neg (by decide), if_neg (by decide), if_pos (by decide)] at eM
    exact simple 20 4 3 20 g1 (by decide) (by decide) eM ⟨by decide, rfl, rfl, Or.inr (Or.inr (Or.inr (Or.inl ⟨rfl, rfl⟩)))⟩ (by omega) (by omega)
  by_cases q59 : t = 59
  · subst q59
    rw [if_neg (by decide), if_neg (by decide), if_neg (by decide), if_pos (by decide)] at eM
    exact simple 23 4 3 23 g1 (by decide) (by decide) eM ⟨by decide, rfl, rfl, Or.inr (Or.inr (Or.inr (Or.inr (Or.inr (Or.inr (⟨rfl, rfl⟩))))))⟩ (by omega) (by omega)
  by_cases q60 : t = 60
  · subst q60
    rw [if_pos (by decide), exM] at eM
    have d2 : (nI x = (61 : Int32)) = (x = 61) := propext m2
    have d3 : (nI x = (62 : Int32)) = (x = 62) := propext m3
    have b2 : (by8 x = (61 : Int32)) = (x = 61) := propext g2
    have b3 : (by8 x = (62 : Int32)) = (x = 62) := propext g3
    have v60 : M0.1 0 9 = 60 := n9
    have g1 : f8_signOf (by8 60) = some 11 := g1
    by_cases y62 : x = 62
    · have y61 : ¬ x = 61 := by omega
      have c62 : (by8 x = (62 : Int32)) = True := eq_true (g3.mpr y62)
      have n62 : (nI x = (62 : Int32)) = True := eq_true (m3.mpr y62)
      have c61 : (by8 x = (61 : Int32)) = False := eq_false (fun e => y61 (g2.mp e))
      have n61 : (nI x = (61 : Int32)) = False := eq_false (fun e => y61 (m2.mp e))
      have z9 : (wI M0 0 7 (nI (q + 1) + 1)).1 0 9 = 60 := (wI_o (by omega)).trans v60
      have z9' : (wI (wI M0 0 7 (nI (q + 1) + 1)) 0 8 5).1 0 9 = 60 := (wI_o (by omega)).trans z9
      have w3 : (wI (wI C0 1 6 11) 1 6 14).1 1 3 = nI (q + 1) := (wI_o (by omega)).trans ((wI_o (by omega)).trans c3)
      have w6 : (wI (wI (wI C0 1 6 11) 1 6 14) 1 3 (nI (q + 1) + 1)).1 1 6 = 14 := (wI_o (by omega)).trans wI_s
      refine ⟨_, _, ?_, ?_, q + 1 + 1, 4, 3, (((FC.w (k := 6) (v := 11) (by omega)).w (k := 6) (v := 14) (by omega)).w (k := 3) (v := nI (q + 1) + 1) (by omega)).w (k := 5) (v := 3) (by omega), ((FM.w (k := 7) (v := nI (q + 1) + 1) (by omega)).w (k := 8) (v := 5) (by omega)).w (k := 9) (v := 3) (by omega), ?_, ?_, by omega, x2 (by omega), ?_, ?_, by omega, by omega, wI_s, ?_, by omega, ?_, wI_s⟩
      · rw [exC]
        simp only [f8_takeSign_44, g1, Option.bind_some, lt, wI_s, if_true, c62, w3, f8_takeSign_152, w6, show ((14 : Int32) = -1) = False from by decide, if_false, f8_takeSign_166]
      · rw [eM]
        simp only [f12_signToken_74, v60, show ((60 : Int32) = 61) = False from by decide, if_false, n61, f12_signToken_94, f12_signToken_95, if_true, n62, f12_signToken_116, one_ne, f12_signToken_125, lt, o7, f12_signToken_135, z9', f12_signToken_192]
      · rw [wI_o (by omega), wI_s, nI_1]
      · rw [wI_o (by omega), wI_o (by omega), wI_s, nI_1]
      · rw [wI_o (by omega), wI_o (by omega), wI_o (by omega), wI_o (by omega)]; exact c4
      · rw [wI_o (by omega), wI_o (by omega), wI_o (by omega)]; exact o10
      · rw [wI_o (by omega), wI_s]
      · rw [wI_o (by omega)]; exact w6
    · by_cases y61 : x = 61
      · skip
        have c62 : (by8 x = (62 : Int32)) = False := eq_false (fun e => y62 (g3.mp e))
        have n62 : (nI x = (62 : Int32)) = False := eq_false (fun e => y62 (m3.mp e))
        have c61 : (by8 x = (61 : Int32)) = True := eq_true (g2.mpr y61)
        have n61 : (nI x = (61 : Int32)) = True := eq_true (m2.mpr y61)
        have z9 : (wI M0 0 7 (nI (q + 1) + 1)).1 0 9 = 60 := (wI_o (by omega)).trans v60
        have z9' : (wI (wI M0 0 7 (nI (q + 1) + 1)) 0 8 5).1 0 9 = 60 := (wI_o (by omega)).trans z9
        have w3 : (wI (wI C0 1 6 11) 1 6 12).1 1 3 = nI (q + 1) := (wI_o (by omega)).trans ((wI_o (by omega)).trans c3)
        have w6 : (wI (wI (wI C0 1 6 11) 1 6 12) 1 3 (nI (q + 1) + 1)).1 1 6 = 12 := (wI_o (by omega)).trans wI_s
        refine ⟨_, _, ?_, ?_, q + 1 + 1, 4, 1, (((FC.w (k := 6) (v := 11) (by omega)).w (k := 6) (v := 12) (by omega)).w (k := 3) (v := nI (q + 1) + 1) (by omega)).w (k := 5) (v := 3) (by omega), ((FM.w (k := 7) (v := nI (q + 1) + 1) (by omega)).w (k := 8) (v := 5) (by omega)).w (k := 9) (v := 1) (by omega), ?_, ?_, by omega, x2 (by omega), ?_, ?_, by omega, by omega, wI_s, ?_, by omega, ?_, wI_s⟩
        · rw [exC]
          simp only [f8_takeSign_44, g1, Option.bind_some, lt, wI_s, if_true, c62, if_false, f8_takeSign_87, c61, w3, f8_takeSign_152, w6, show ((12 : Int32) = -1) = False from by decide, f8_takeSign_166]
        · rw [eM]
          simp only [f12_signToken_74, v60, show ((60 : Int32) = 61) = False from by decide, if_false, n61, f12_signToken_95, if_true, n62, f12_signToken_115, f12_signToken_116, one_ne, f12_signToken_125, lt, o7, f12_signToken_135, z9', f12_signToken_192, show (61 = 62) = False from by decide]
        · rw [wI_o (by omega), wI_s, nI_1]
        · rw [wI_o (by omega), wI_o (by omega), wI_s, nI_1]
        · rw [wI_o (by omega), wI_o (by omega), wI_o (by omega), wI_o (by omega)]; exact c4
        · rw [wI_o (by omega), wI_o (by omega), wI_o (by omega)]; exact o10
        · rw [wI_o (by omega), wI_s]
        · rw [wI_o (by omega)]; exact w6
      · skip
        have c62 : (by8 x = (62 : Int32)) = False := eq_false (fun e => y62 (g3.mp e))
        have n62 : (nI x = (62 : Int32)) = False := eq_false (fun e => y62 (m3.mp e))
        have c61 : (by8 x = (61 : Int32)) = False := eq_false (fun e => y61 (g2.mp e))
        have n61 : (nI x = (61 : Int32)) = False := eq_false (fun e => y61 (m2.mp e))
        have z9 : (wI M0 0 8 5).1 0 9 = 60 := (wI_o (by omega)).trans v60
        refine ⟨_, _, ?_, ?_, q + 1, 4, 0, (FC.w (k := 6) (v := 11) (by omega)).w (k := 5) (v := 3) (by omega), (FM.w (k := 8) (v := 5) (by omega)).w (k := 9) (v := 0) (by omega), ?_, ?_, by omega, by omega, ?_, ?_, by omega, by omega, wI_s, ?_, by omega, ?_, wI_s⟩
        · rw [exC]
          simp only [f8_takeSign_44, g1, Option.bind_some, lt, wI_s, if_true, c62, if_false, f8_takeSign_87, c61, f8_takeSign_121, show ((11 : Int32) = 16) = False from by decide, f8_takeSign_152, show ((11 : Int32) = -1) = False from by decide, f8_takeSign_166]
        · rw [eM]
          simp only [f12_signToken_74, v60, show ((60 : Int32) = 61) = False from by decide, if_false, n61, f12_signToken_94, f12_signToken_95, if_true, n62, f12_signToken_115, f12_signToken_116, lt, f12_signToken_135, z9, f12_signToken_192]
        · rw [wI_o (by omega), wI_o (by omega)]; exact c3
        · rw [wI_o (by omega), wI_o (by omega)]; exact o7
        · rw [wI_o (by omega), wI_o (by omega)]; exact c4
        · rw [wI_o (by omega), wI_o (by omega)]; exact o10
        · rw [wI_o (by omega), wI_s]
        · rw [wI_o (by omega), wI_s]; rfl
  by_cases q62 : t = 62
  · subst q62
    rw [if_neg (by decide), if_pos (by decide), exM] at eM
    have d2 : (nI x = (61 : Int32)) = (x = 61) := propext m2
    have b2 : (by8 x = (61 : Int32)) = (x = 61) := propext g2
    have v62 : M0.1 0 9 = 62 := n9
    have g1 : f8_signOf (by8 62) = some 16 := g1
    by_cases y61 : x = 61
    · skip
      have c61 : (by8 x = (61 : Int32)) = True := eq_true (g2.mpr y61)
      have n61 : (nI x = (61 : Int32)) = True := eq_true (m2.mpr y61)
      have z9' : (wI (wI M0 0 7 (nI (q + 1) + 1)) 0 8 5).1 0 9 = 62 := (wI_o (by omega)).trans ((wI_o (by omega)).trans v62)
      have w3 : (wI (wI C0 1 6 16) 1 6 15).1 1 3 = nI (q + 1) := (wI_o (by omega)).trans ((wI_o (by omega)).trans c3)
      have w6 : (wI (wI (wI C0 1 6 16) 1 6 15) 1 3 (nI (q + 1) + 1)).1 1 6 = 15 := (wI_o (by omega)).trans wI_s
      refine ⟨_, _, ?_, ?_, q + 1 + 1, 4, 4, (((FC.w (k := 6) (v := 16) (by omega)).w (k := 6) (v := 15) (by omega)).w (k := 3) (v := nI (q + 1) + 1) (by omega)).w (k := 5) (v := 3) (by omega), ((FM.w (k := 7) (v := nI (q + 1) + 1) (by omega)).w (k := 8) (v := 5) (by omega)).w (k := 9) (v := 4) (by omega), ?_, ?_, by omega, x2 (by omega), ?_, ?_, by omega, by omega, wI_s, ?_, by omega, ?_, wI_s⟩
      · rw [exC]
        simp only [f8_takeSign_44, g1, Option.bind_some, lt, wI_s, show ((16 : Int32) = 11) = False from by decide, if_false, f8_takeSign_87, f8_takeSign_121, if_true, c61, w3, f8_takeSign_152, w6, show ((15 : Int32) = -1) = False from by decide, f8_takeSign_166]
      · rw [eM]
        simp only [f12_signToken_74, v62, show ((62 : Int32) = 61) = False from by decide, if_false, n61, f12_signToken_95, if_true, show ((62 : Int32) = 60) = False from by decide, f12_signToken_115, f12_signToken_116, one_ne, f12_signToken_125, lt, o7, f12_signToken_135, z9', f12_signToken_192]
      · rw [wI_o (by omega), wI_s, nI_1]
      · rw [wI_o (by omega), wI_o (by omega), wI_s, nI_1]
      · rw [wI_o (by omega), wI_o (by omega), wI_o (by omega), wI_o (by omega)]; exact c4
      · rw [wI_o (by omega), wI_o (by omega), wI_o (by omega)]; exact o10
      · rw [wI_o (by omega), wI_s]
      · rw [wI_o (by omega)]; exact w6
    · skip
      have c61 : (by8 x = (61 : Int32)) = False := eq_false (fun e => y61 (g2.mp e))
      have n61 : (nI x = (61 : Int32)) = False := eq_false (fun e => y61 (m2.mp e))
      have z9 : (wI M0 0 8 5).1 0 9 = 62 := (wI_o (by omega)).trans v62
      refine ⟨_, _, ?_, ?_, q + 1, 4, 5, (FC.w (k := 6) (v := 16) (by omega)).w (k := 5) (v := 3) (by omega), (FM.w (k := 8) (v := 5) (by omega)).w (k := 9) (v := 5) (by omega), ?_, ?_, by omega, by omega, ?_, ?_, by omega, by omega, wI_s, ?_, by omega, ?_, wI_s⟩
      · rw [exC]
        simp only [f8_takeSign_44, g1, Option.bind_some, lt, wI_s, show ((16 : Int32) = 11) = False from by decide, if_false, f8_takeSign_87, f8_takeSign_121, if_true, c61, f8_takeSign_152, show ((16 : Int32) = -1) = False from by decide, f8_takeSign_166]
      · rw [eM]
        simp only [f12_signToken_74, v62, show ((62 : Int32) = 61) = False from by decide, if_false, n61, f12_signToken_94, f12_signToken_95, if_true, show ((62 : Int32) = 60) = False from by decide, f12_signToken_115, f12_signToken_116, lt, f12_signToken_135, z9, f12_signToken_192]
      · rw [wI_o (by omega), wI_o (by omega)]; exact c3
      · rw [wI_o (by omega), wI_o (by omega)]; exact o7
      · rw [wI_o (by omega), wI_o (by omega)]; exact c4
      · rw [wI_o (by omega), wI_o (by omega)]; exact o10
      · rw [wI_o (by omega), wI_s]
      · rw [wI_o (by omega), wI_s]; rfl
  by_cases q61 : t = 61
  · subst q61
    rw [if_neg (by decide), if_neg (by decide), if_pos (by decide), exM] at eM
    have v61 : M0.1 0 9 = 61 := n9
    have g1 : f8_signOf (by8 61) = some 13 := g1
    have z9 : (wI M0 0 8 5).1 0 9 = 61 := (wI_o (by omega)).trans v61
    refine ⟨_, _, ?_, ?_, q + 1, 4, 2, (FC.w (k := 6) (v := 13) (by omega)).w (k := 5) (v := 3) (by omega), (FM.w (k := 8) (v := 5) (by omega)).w (k := 9) (v := 2) (by omega), ?_, ?_, by omega, by omega, ?_, ?_, by omega, by omega, wI_s, ?_, by omega, ?_, wI_s⟩
    · rw [exC]
      simp only [f8_takeSign_44, g1, Option.bind_some, lt, wI_s, show ((13 : Int32) = 11) = False from by decide, if_false, f8_takeSign_87, f8_takeSign_121, show ((13 : Int32) = 16) = False from by decide, f8_takeSign_152, show ((13 : Int32) = -1) = False from by decide, f8_takeSign_166]
    · rw [eM]
      simp only [f12_signToken_74, v61, if_true, f12_signToken_94, f12_signToken_95, show ((61 : Int32) = 60) = False from by decide, if_false, f12_signToken_115, f12_signToken_116, lt, f12_signToken_135, z9, f12_signToken_192]
    · rw [wI_o (by omega), wI_o (by omega)]; exact c3
    · rw [wI_o (by omega), wI_o (by omega)]; exact o7
    · rw [wI_o (by omega), wI_o (by omega)]; exact c4
    · rw [wI_o (by omega), wI_o (by omega)]; exact o10
    · rw [wI_o (by omega), wI_s]
    · rw [wI_o (by omega), wI_s]; rfl
  have g1 : f8_signOf (by8 t) = some (-1) := by
    rw [g1, if_neg q40, if_neg q41, if_neg q42, if_neg q43, if_neg q45, if_neg q47, if_neg q59, if_neg q60, if_neg q61, if_neg q62]
  have ne : ∀ k, k < 256 → t ≠ k → ¬ nI t = nI k := fun k hk hne => by rw [nI_eq (by omega) (by omega)]; exact hne
  by_cases q37 : t = 37
  · subst q37
    rw [if_neg (by decide), if_neg (by decide), if_neg (by decide), if_neg (by decide), if_neg (by decide), if_neg (by decide), if_neg (by decide), if_neg (by decide), if_neg (by decide), if_neg (by decide), if_pos (by decide)] at eM
    exact simple (-1) 4 5 0 g1 (by decide) (by decide) eM ⟨by decide, Or.inr ⟨rfl, rfl⟩⟩ (by omega) (by omega)
  · rw [if_neg (show ¬ nI t = (60 : Int32) from ne 60 (by omega) q60), if_neg (show ¬ nI t = (62 : Int32) from ne 62 (by omega) q62), if_neg (show ¬ nI t = (61 : Int32) from ne 61 (by omega) q61), if_neg (show ¬ nI t = (59 : Int32) from ne 59 (by omega) q59), if_neg (show ¬ nI t = (40 : Int32) from ne 40 (by omega) q40), if_neg (show ¬ nI t = (41 : Int32) from ne 41 (by omega) q41), if_neg (show ¬ nI t = (43 : Int32) from ne 43 (by omega) q43), if_neg (show ¬ nI t = (45 : Int32) from ne 45 (by omega) q45), if_neg (show ¬ nI t = (42 : Int32) from ne 42 (by omega) q42), if_neg (show ¬ nI t = (47 : Int32) from ne 47 (by omega) q47), if_neg (show ¬ nI t = (37 : Int32) from ne 37 (by omega) q37)] at eM
    exact simple (-1) 6 5 0 g1 (by decide) (by decide) eM ⟨by decide, Or.inl rfl⟩ (by omega) (by omega)
end NEXT2
