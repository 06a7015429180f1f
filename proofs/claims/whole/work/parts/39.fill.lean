/-! fill. -/
/-- sums: s i over i below n -/
def smN (s : Nat → Nat) : Nat → Nat
  | 0 => 0
  | n + 1 => smN s n + s n
theorem smN_le {s : Nat → Nat} {B : Nat} : ∀ {n : Nat}, (∀ i, i < n → s i ≤ B) → smN s n ≤ B * n
  | 0, _ => Nat.zero_le _
  | n + 1, h => by
    have := smN_le (s := s) (B := B) (n := n) (fun i hi => h i (by omega))
    have := h n (by omega)
    unfold smN
    rw [Nat.mul_succ]
    omega
theorem smN_congr {s t : Nat → Nat} : ∀ {n : Nat}, (∀ i, i < n → s i = t i) → smN s n = smN t n
  | 0, _ => rfl
  | n + 1, h => by
    unfold smN
    rw [smN_congr (fun i hi => h i (by omega)), h n (by omega)]
theorem smN_add {s t : Nat → Nat} : ∀ {n : Nat}, smN (fun i => s i + t i) n = smN s n + smN t n
  | 0 => rfl
  | n + 1 => by
    unfold smN
    rw [smN_add]; omega
/-- places with the pin t where the other hears v -/
def kf (S : Sp) (b t v o : Nat) : Nat := if tb (S 5 b) o = true then cnt (fun k => decide (S 7 (8 * b + k) = t ∧ hS S o k = v)) 8 else 0
/-- places with another pin that are alike -/
def kg (S : Sp) (b t o : Nat) : Nat := if tb (S 5 b) o = true then cnt (fun k => decide (¬ S 7 (8 * b + k) = t ∧ 0 < hS S b k ∧ hS S b k = hS S o k)) 8 else 0
theorem kf_le (S : Sp) (b t v o : Nat) : kf S b t v o ≤ 8 := by
  unfold kf
  split
  · exact cnt_le _ 8
  · omega
theorem kg_le (S : Sp) (b t o : Nat) : kg S b t o ≤ 8 := by
  unfold kg
  split
  · exact cnt_le _ 8
  · omega
theorem kinHear_eq {S : Sp} {c : Hp} {b t v : Nat} (w : wfNow S) (hC : nowC S c) (hE : ear S c) (hb : b < S 0 0) (ht : t ≤ 9) (hv : v ≤ 9) : f11_kinThatHear (nI b) (nI t) (nI v) c = some (nI (smN (kf S b t v) (S 0 0))) := by
  have hn := w.1
  obtain ⟨w1, w2, w3, w4, w5, w6, w7, w8, w9⟩ := w.2.2.2.2 b hb
  obtain ⟨b1, b2, b3, b4, b5, b6, b7, b8, b9, b10⟩ := hC.2.2.2.2 b hb
  unfold f11_kinThatHear f11_kinThatHear_6
  refine lp_for1 (f := fun z : Int32 × Int32 => f11_kinThatHear_6_s (nI b) (nI t) (nI v) z.1 z.2 c) (fun i => (nI (smN (kf S b t v) i), nI i)) (S 0 0) (fun o ho => ?_) ?_
  · simp only [f11_kinThatHear_6_s, hC.1, nI_ge ho (show S 0 0 < 2 ^ 31 by omega), if_false, f11_kinThatHear_21]
    have ib := inb_t (show b < 6 by omega) (show 6 < 2 ^ 31 by omega)
    have ixb := ix_nI (show b < 2 ^ 31 by omega)
    have kk : f0_isKinOf (8 + 2 * b) (nI o) c = some (if tb (S 5 b) o = true then 1 else 0) := by
      rw [f0_isKinOf_eq, b3]
      simp only [bit1 (show S 5 b < 2 ^ 31 by omega) (show o < 32 by omega)]
    by_cases q : tb (S 5 b) o = true
    · have e0 : smN (kf S b t v) (o + 1) = smN (kf S b t v) o + cnt (fun k => decide (S 7 (8 * b + k) = t ∧ hS S o k = v)) 8 := by
        show _ + kf S b t v o = _
        unfold kf; rw [if_pos q]
      rw [e0]
      refine lp_for1 (f := fun z : Int32 × Int32 => f11_kinThatHear_21_s (nI b) (nI t) (nI v) z.1 (nI o) z.2 c) (fun k => (nI (smN (kf S b t v) o + cnt (fun k => decide (S 7 (8 * b + k) = t ∧ hS S o k = v)) k), nI k)) 8 (fun k hk => ?_) ?_
      · have h9 := hS_le S o k
        have p9 := w9 k hk
        simp only [f11_kinThatHear_21_s, f11_kinThatHear_82, g8 hk, if_false, gd, ib, if_true, ixb, kk, q, Option.bind_some, one_ne, inb_t hk (show 8 < 2 ^ 31 by omega), ix_nI (show k < 2 ^ 31 by omega), b10 k hk, at_eq hE hn ho hk, nI_1, cnt]
        simp (disch := omega) only [nI_eq]
        by_cases q1 : S 7 (8 * b + k) = t
        · by_cases q2 : hS S o k = v
          · simp [q1, q2, Nat.add_assoc]
          · simp [q1, q2]
        · simp [q1]
      · simp only [f11_kinThatHear_21_s, f11_kinThatHear_88, l8, if_true, Option.map_some, nI_1]
    · refine lp_inr (o := some _) ?_
      have e0 : smN (kf S b t v) (o + 1) = smN (kf S b t v) o := by
        show _ + kf S b t v o = _
        unfold kf; rw [if_neg q]; rfl
      rw [e0]
      simp only [f11_kinThatHear_21_s, f11_kinThatHear_88, show ¬ (8 : Int32) ≤ 0 from by decide, if_false, gd, ib, if_true, ixb, kk, q, Bool.false_eq_true, Option.bind_some, Option.map_some, nI_1]
  · simp only [f11_kinThatHear_6_s, hC.1, nI_le (Nat.le_refl (S 0 0)) (show S 0 0 < 2 ^ 31 by omega), if_true]
theorem fillM_in {S : Sp} {m : Hp} {b t v : Nat} (w : wfNow S) (hM : nowM S m) (hp : m.1 0 61 = 0) (hb : b < S 0 0) (ht : t ≤ 9) (hv : v ≤ 9) (hv1 : 1 ≤ v) (x3 x4 : Int32) : f12_fill_63 (nI b) (nI t) x3 x4 (nI v) 0 0 m = f12_fill_171 (nI b) (nI t) x3 x4 (nI v) (nI (smN (fun o => kf S b t v o + kg S b t o) (S 0 0))) m := by
  have hn := w.1
  obtain ⟨w1, w2, w3, w4, w5, w6, w7, w8, w9⟩ := w.2.2.2.2 b hb
  obtain ⟨b1, b2, b3, b4, b5, b6, b7, b8, b9⟩ := hM.2.2.2.2 b hb
  unfold f12_fill_63
  refine lp_for (f := fun z : Int32 × Int32 => f12_fill_63_s (nI b) (nI t) x3 x4 (nI v) z.1 z.2 m) (fun i => (nI (smN (fun o => kf S b t v o + kg S b t o) i), nI i)) (S 0 0) (fun o ho => ?_) ?_
  · have ib := inb_t (show b < 12 by omega) (show 12 < 2 ^ 31 by omega)
    have ixb := ix_nI (show b < 2 ^ 31 by omega)
    simp only [f12_fill_63_s, hM.1, nI_ge ho (show S 0 0 < 2 ^ 31 by omega), if_false, gd, ib, if_true, ixb, isOf_eq, b2, bit1 (show S 5 b < 2 ^ 31 by omega) (show o < 32 by omega), Option.bind_some, f12_fill_165]
    by_cases q : tb (S 5 b) o = true
    · simp only [q, if_true, one_ne, if_false, f12_fill_92]
      have e0 : smN (fun o => kf S b t v o + kg S b t o) (o + 1) = smN (fun o => kf S b t v o + kg S b t o) o + (cnt (fun k => decide (S 7 (8 * b + k) = t ∧ hS S o k = v)) 8 + cnt (fun k => decide (¬ S 7 (8 * b + k) = t ∧ 0 < hS S b k ∧ hS S b k = hS S o k)) 8) := by
        show _ + (kf S b t v o + kg S b t o) = _
        unfold kf kg; rw [if_pos q, if_pos q]
      rw [e0]
      refine lp_for1 (f := fun z : Int32 × Int32 => f12_fill_92_s (nI b) (nI t) x3 x4 (nI v) z.1 (nI o) z.2 m) (fun k => (nI (smN (fun o => kf S b t v o + kg S b t o) o + (cnt (fun k => decide (S 7 (8 * b + k) = t ∧ hS S o k = v)) k + cnt (fun k => decide (¬ S 7 (8 * b + k) = t ∧ 0 < hS S b k ∧ hS S b k = hS S o k)) k)), nI k)) 8 (fun k hk => ?_) ?_
      · have h9 := hS_le S o k
        have h9' := hS_le S b k
        have p9 := w9 k hk
        have e1 : (8 * nI b + nI k : Int32) = nI (8 * b + k) := by rw [lit, pk_mul, nI_add]
        simp only [f12_fill_92_s, f12_fill_128, f12_fill_155, f12_fill_156, lt, g8 hk, if_false, gd, e1, inb_t (show 8 * b + k < 96 by omega) (show 96 < 2 ^ 31 by omega), if_true, ix_nI (show 8 * b + k < 2 ^ 31 by omega), b9 k hk, heardIn_nI w hM ho hk hp, heardIn_nI w hM hb hk hp, Option.bind_some, nI_1, cnt]
        simp (disch := omega) only [show (0 : Int32) = nI 0 from rfl, show (1 : Int32) = nI 1 from rfl, nI_eq, nI_leI, nI_add]
        by_cases q1 : S 7 (8 * b + k) = t
        · by_cases q2 : hS S o k = v
          · rw [if_pos q1, if_neg (by omega), if_pos q2.symm, if_pos (by simp [q1, q2]), if_neg (by simp [q1])]
            exact congrArg (fun z => some (Sum.inl (nI z, nI (k + 1)))) (by omega)
          · rw [if_pos q1, if_neg (by omega), if_neg (by omega), if_neg (by simp [q2]), if_neg (by simp [q1])]
            congr 3
        · by_cases q2 : hS S b k ≤ 0
          · rw [if_neg q1, if_pos q2, if_neg (by simp [q1]), if_neg (by simp; omega)]
            congr 3
          · by_cases q3 : hS S b k = hS S o k
            · rw [if_neg q1, if_neg q2, if_pos q3, if_neg (by simp [q1]), if_pos (by rw [decide_eq_true_eq]; exact ⟨q1, by omega, q3⟩)]
              congr 3
            · rw [if_neg q1, if_neg q2, if_neg q3, if_neg (by simp [q1]), if_neg (by simp [q3])]
              congr 3
      · simp only [f12_fill_92_s, f12_fill_165, l8, if_true, Option.map_some, nI_1]
    · have e0 : smN (fun o => kf S b t v o + kg S b t o) (o + 1) = smN (fun o => kf S b t v o + kg S b t o) o := by
        show _ + (kf S b t v o + kg S b t o) = _
        unfold kf kg; rw [if_neg q, if_neg q]; rfl
      simp only [q, Bool.false_eq_true, if_false, if_true, e0, nI_1]
  · simp only [f12_fill_63_s, hM.1, nI_le (Nat.le_refl (S 0 0)) (show S 0 0 < 2 ^ 31 by omega), if_true]
theorem op_fill {S : Sp} {c m : Hp} (w : wfNow S) (hC : nowC S c) (hM : nowM S m) (x y : Int32) : ∃ r c' m', f11_fill x y c = some (r, c') ∧ f12_fill x y m = some (r, m') ∧ frC c c' ∧ frM m m' := by
  have hn := w.1
  obtain ⟨m0', em, fr0⟩ := m0_ex m
  have hM0 := hM.fr w fr0
  obtain ⟨m1, e1, f1, p58, p59, p60, p61, p62, pf, pj⟩ := plain_ex m0'
  have fr := fr0.tr f1
  have hM1 := hM.fr w fr
  obtain ⟨c1, ec, l⟩ := listen_ex w hC
  have hC1 := hC.fr w l.fr
  simp only [f11_fill, f12_fill, em, lt, isBoxC, isBoxM, isWithin_eq, isTooth_eq, hC.1, hM0.1, Option.bind_some, e1, ec]
  rcases bi_cases x (S 0 0) (by omega) with h | ⟨b, hb, rfl, h⟩
  · simp only [h, if_true]; exact ⟨_, _, _, rfl, rfl, frC.rf, fr0⟩
  · rcases wi_cases y 1 9 (by omega) (by omega) with h3 | ⟨t, ht1, ht, rfl, h3⟩
    · simp only [h, show wi y 1 9 = 0 from h3, if_true, one_ne, if_false]; exact ⟨_, _, _, rfl, rfl, frC.rf, fr0⟩
    · obtain ⟨w1, w2, w3, w4, w5, w6, w7, w8, w9⟩ := w.2.2.2.2 b hb
      simp only [h, show wi (nI t) 1 9 = 1 from h3, one_ne, if_false, gd, inb_t (show b < 6 by omega) (show 6 < 2 ^ 31 by omega), inb_t (show b < 12 by omega) (show 12 < 2 ^ 31 by omega), if_true, ix_nI (show b < 2 ^ 31 by omega), f0_misses_eq, isOf_eq, (hC.2.2.2.2 b hb).2.2.2.2.2.2.2.1, (hM0.2.2.2.2 b hb).2.2.2.2.2.2.1, bit1 (show S 4 b < 2 ^ 31 by omega) (show t < 32 by omega), Option.bind_some]
      by_cases q : tb (S 4 b) t = true
      · simp only [q, if_true, one_ne, if_false, f11_fill_58, f12_fill_50]
        have key := lp_sim (f := fun z : Int32 × Int32 × Int32 => f11_fill_58_s (nI b) (nI t) z.1 z.2.1 z.2.2 c1) (g := fun z : Int32 × Int32 × Int32 => f12_fill_50_s (nI b) (nI t) z.1 z.2.1 z.2.2 m1) (Q := fun r r' => ∃ v, r = (v, c1) ∧ r' = (v, m1)) (I := fun n s s' => ∃ v, 1 ≤ v ∧ v ≤ 10 ∧ n = 10 - v ∧ ((v = 1 ∧ s = (0, -1, nI v) ∧ s' = (0, 0, nI v)) ∨ ∃ u M, 1 ≤ u ∧ u ≤ 9 ∧ M ≤ 48 ∧ s = (nI u, nI M, nI v) ∧ s' = (nI u, nI (M + smN (kg S b t) (S 0 0)), nI v))) ?_ 9 (0, -1, 1) (0, 0, 1) ⟨1, by omega, by omega, rfl, Or.inl ⟨rfl, rfl, rfl⟩⟩
        · obtain ⟨r, r', e, e', v, rfl, rfl⟩ := key
          exact ⟨v, c1, m1, e, e', l.fr, fr⟩
        · rintro n s s' ⟨v, v1, v10, hnv, hs⟩
          by_cases he : v = 10
          · subst he
            have g : (9 : Int32) < nI 10 := by decide
            rcases hs with ⟨z, -, -⟩ | ⟨u, M, hu1, hu9, hM48, rfl, rfl⟩
            · omega
            · refine ⟨.inr (nI u, c1), .inr (nI u, m1), ?_, ?_, nI u, rfl, rfl⟩
              · simp only [f11_fill_58_s, g, if_true]
              · simp only [f12_fill_50_s, g, if_true]
          · have g : ¬ (9 : Int32) < nI v := by rw [lit]; exact nI_nlt (by omega) (by omega)
            have vC := kinHear_eq w hC1 l.ear hb ht (show v ≤ 9 by omega)
            have vM := fillM_in w hM1 p61 hb ht (show v ≤ 9 by omega) v1
            have B1 : smN (kf S b t v) (S 0 0) ≤ 8 * S 0 0 := smN_le (fun i _ => kf_le S b t v i)
            have B2 : smN (kg S b t) (S 0 0) ≤ 8 * S 0 0 := smN_le (fun i _ => kg_le S b t i)
            have e2 : smN (fun o => kf S b t v o + kg S b t o) (S 0 0) = smN (kf S b t v) (S 0 0) + smN (kg S b t) (S 0 0) := smN_add
            rw [e2] at vM
            have nxt : SS (fun a b_1 : Int32 × Int32 × Int32 => ∃ n', n' < n ∧ ∃ v, 1 ≤ v ∧ v ≤ 10 ∧ n' = 10 - v ∧ ((v = 1 ∧ a = (0, -1, nI v) ∧ b_1 = (0, 0, nI v)) ∨ ∃ u M, 1 ≤ u ∧ u ≤ 9 ∧ M ≤ 48 ∧ a = (nI u, nI M, nI v) ∧ b_1 = (nI u, nI (M + smN (kg S b t) (S 0 0)), nI v))) (fun r r' : Int32 × Hp => ∃ v, r = (v, c1) ∧ r' = (v, m1)) (.inl (nI v, nI (smN (kf S b t v) (S 0 0)), nI (v + 1))) (.inl (nI v, nI (smN (kf S b t v) (S 0 0) + smN (kg S b t) (S 0 0)), nI (v + 1))) := ⟨10 - (v + 1), by omega, v + 1, by omega, by omega, rfl, Or.inr ⟨v, _, by omega, by omega, by omega, rfl, rfl⟩⟩
            rcases hs with ⟨z, rfl, rfl⟩ | ⟨u, M, hu1, hu9, hM48, rfl, rfl⟩
            · refine ⟨_, _, ?_, ?_, nxt⟩
              · have ng : ¬ nI (smN (kf S b t v) (S 0 0)) ≤ (-1 : Int32) := by
                  rw [Int32.le_iff_toInt_le, nI_toInt (by omega), show ((-1 : Int32)).toInt = -1 from by decide]; omega
                simp only [f11_fill_58_s, f11_fill_89, g, if_false, vC, Option.bind_some, ng, nI_1]
              · simp only [f12_fill_50_s, g, if_false, vM, f12_fill_171, f12_fill_185, f12_fill_192, show ((0 : Int32) ≤ 0) = True from by decide, if_true, nI_1]
            · by_cases q2 : M < smN (kf S b t v) (S 0 0)
              · refine ⟨_, _, ?_, ?_, nxt⟩
                · simp only [f11_fill_58_s, f11_fill_89, g, if_false, vC, Option.bind_some, nI_ge q2 (show smN (kf S b t v) (S 0 0) < 2 ^ 31 by omega), nI_1]
                · simp only [f12_fill_50_s, g, if_false, vM, f12_fill_171, f12_fill_185, f12_fill_192, nI_nle (show 0 < u by omega) (by omega), nI_lt (show M + smN (kg S b t) (S 0 0) < smN (kf S b t v) (S 0 0) + smN (kg S b t) (S 0 0) by omega) (by omega), if_true, nI_1]
              · refine ⟨.inl (nI u, nI M, nI (v + 1)), .inl (nI u, nI (M + smN (kg S b t) (S 0 0)), nI (v + 1)), ?_, ?_, 10 - (v + 1), by omega, v + 1, by omega, by omega, rfl, Or.inr ⟨u, M, hu1, hu9, hM48, rfl, rfl⟩⟩
                · simp only [f11_fill_58_s, f11_fill_89, g, if_false, vC, Option.bind_some, nI_le (show smN (kf S b t v) (S 0 0) ≤ M by omega) (show M < 2 ^ 31 by omega), if_true, nI_1]
                · simp only [f12_fill_50_s, g, if_false, vM, f12_fill_171, f12_fill_185, f12_fill_192, nI_nle (show 0 < u by omega) (show u < 2 ^ 31 by omega), nI_nlt (show smN (kf S b t v) (S 0 0) + smN (kg S b t) (S 0 0) ≤ M + smN (kg S b t) (S 0 0) by omega) (show M + smN (kg S b t) (S 0 0) < 2 ^ 31 by omega), nI_1]
      · simp only [q, Bool.false_eq_true, if_true, if_false]; exact ⟨_, _, _, rfl, rfl, frC.rf, fr0⟩
