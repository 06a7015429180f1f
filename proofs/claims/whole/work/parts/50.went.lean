/-! Calls that try years: law, ahead, runDown, lasts. -/
theorem lawM.f {S : Sp} {m m' : Hp} (h : lawM S m) (f : frM m m') : lawM S m' := h.o (fun q k a b => f.1 _ _ (by unfold scrM; omega))
theorem op_law {S : Sp} {t : Nat} {c m : Hp} (w : wfNow S) (w2 : wfLaws S) (hC : nowC S c) (hM : nowM S m) (hT : toldC S t c) (hL : lawC S t c) (lM : lawM S m) (x y : Int32) : ∃ r c' m', f11_law x y c = some (r, c') ∧ f12_law x y m = some (r, m') ∧ frC c c' ∧ frM m m' := by
  have hn := w.1
  obtain ⟨m1, em, fr⟩ := m0_ex m
  have hM1 := hM.fr w fr
  have hkd := kd10 hT.2.1
  have lM1 := lM.f fr
  simp only [f11_law, f12_law, em, lt, isBoxC, isBoxM, isWithin_eq, isIn_eq, hC.1, hM1.1, Option.bind_some, hT.1, gd, hkd, if_true]
  rcases wi_cases x 0 2 (by omega) (by omega) with h2 | ⟨l, -, hl, rfl, h2⟩
  · rcases bi_cases y (S 0 0) (by omega) with h | ⟨i, hi, rfl, h⟩
    · simp only [h, show wi x 0 2 = 0 from h2, if_true]; exact ⟨_, _, _, rfl, rfl, frC.rf, fr⟩
    · simp only [h, show wi x 0 2 = 0 from h2, if_true, one_ne, if_false]; exact ⟨_, _, _, rfl, rfl, frC.rf, fr⟩
  · have l3 : l < 3 := by omega
    have h14 := (lM1.2 l l3).1
    have h2 : wi (nI l) 0 2 = 1 := h2
    simp only [h2, one_ne, if_false, inb_t (show l < 6 by omega) (by omega), if_true, ix_nI (show l < 2 ^ 31 by omega), h14]
    rcases bi_cases y (S 0 0) (by omega) with h | ⟨i, hi, rfl, h⟩
    · by_cases ht : S 42 l < S 43 l
      · simp only [h, ht, if_true, one_ne, if_false]; exact ⟨_, _, _, rfl, rfl, frC.rf, fr⟩
      · simp only [h, ht, if_true, if_false]; exact ⟨_, _, _, rfl, rfl, frC.rf, fr⟩
    · obtain ⟨m2, e2, f2, p58, p59, p60, p61, p62, pf, pj⟩ := plain_ex m1
      have fr2 := fr.tr f2
      have hM2 := hM.fr w fr2
      have x2 := bxM_now (hM2.2.2.2.2 i hi) p60 p61
      have wb := wf_bx w hi
      obtain ⟨m3, e3, n3, o3, j3, r3⟩ := layNames_ex wb (show 0 ≤ 1 by omega) (show i < 6 by omega) x2 hM2.2.1
      have fr3 : frM m m3 := fr2.tr ⟨fun q k _ => by rw [o3], by rw [j3 0 (by omega)], by rw [j3 0 (by omega)]⟩
      have lM3 : lawM S m3 := lM.f fr3
      have hE := envC_of (y := S 0 4) wb.2.2.2.1 (bxC_of (hC.2.2.2.2 i hi))
      have e3 : f12_layNames 0 (nI i) m2 = some m3 := e3
      by_cases ht : S 42 l < S 43 l
      · obtain ⟨r, c', r', m', e4, e5, s4, s5, e6⟩ := law_eval w2 hL lM3 l3 hE n3 (fun j _ => nmB_bnd _ _ _ j) ht
        simp only [h, ht, if_true, one_ne, if_false, e2, Option.bind_some, e3, e5, inb_t (show i < 6 by omega) (by omega), ix_nI (show i < 2 ^ 31 by omega), hC.2.1, e4]
        rcases e6 with ⟨z1, z2, -⟩ | ⟨z1, z2⟩
        · simp only [z1, if_true, z2]; exact ⟨_, _, _, rfl, rfl, s4.fr, fr3.tr s5.fr⟩
        · simp only [z1, one_ne, if_false, z2]; exact ⟨_, _, _, rfl, rfl, s4.fr, fr3.tr s5.fr⟩
      · simp only [h, ht, if_true, one_ne, if_false, inb_t (show i < 6 by omega) (by omega), ix_nI (show i < 2 ^ 31 by omega), hC.2.1, law_no w2 hL l3 ht, Option.bind_some]
        exact ⟨_, _, _, rfl, rfl, frC.rf, fr⟩
theorem six_i {i : Nat} : (6 + nI i : Int32) = nI (6 + i) := by rw [lit, nI_add]
theorem op_ahead {S : Sp} {t : Nat} {c m : Hp} (w0 : wfNow S) (w1 : wfTold S) (w : wfLaws S) (hC : nowC S c) (hM : nowM S m) (hT : toldC S t c) (hU : toldM S m) (hL : lawC S t c) (lM : lawM S m) (hz : bzM m) (x y z : Int32) : ∃ r c' m', f11_ahead x y z c = some (r, c') ∧ f12_ahead x y z m = some (r, m') ∧ frC c c' ∧ frM m m' := by
  have hn := w0.1
  obtain ⟨m1, em, fr⟩ := m0_ex m
  have hM1 := hM.fr w0 fr
  have hU1 := hU.fr fr
  have lM1 := lM.f fr
  have hz1 := hz.fr fr
  simp only [f11_ahead, f12_ahead, em, lt, isBoxC, isBoxM, isWithin_eq, isIn_eq, hC.1, hM1.1, Option.bind_some]
  rcases bi_cases x (S 0 0) (by omega) with h | ⟨i, hi, rfl, h⟩
  · simp only [h, if_true]; exact ⟨_, _, _, rfl, rfl, frC.rf, fr⟩
  rcases wi_cases y 0 99 (by omega) (by omega) with h2 | ⟨K, -, hK, rfl, h2⟩
  · simp only [h, show wi y 0 99 = 0 from h2, one_ne, if_false, if_true]; exact ⟨_, _, _, rfl, rfl, frC.rf, fr⟩
  have h2 : wi (nI K) 0 99 = 1 := h2
  rcases wi_cases z 0 3 (by omega) (by omega) with h3 | ⟨j, -, hj, rfl, h3⟩
  · simp only [h, h2, show wi z 0 3 = 0 from h3, one_ne, if_false, if_true]; exact ⟨_, _, _, rfl, rfl, frC.rf, fr⟩
  have h3 : wi (nI j) 0 3 = 1 := h3
  obtain ⟨m2, m3, e2, e3, f3, N3, b3⟩ := wentM_ex (t := t) w0 w1 w hL hM1 hU1 lM1 hz1 (show K ≤ 1000 by omega)
  obtain ⟨c2, e4, f4, x4, l4⟩ := trial_ex w0 hC hi
  have C4 := hC.fr w0 f4.fr
  have T4 := hT.fr hn f4.fr
  have L4 := hL.f f4.fr
  have wb := wf_bx w0 hi
  have hY : S 0 4 + K ≤ 12000 := by have := w0.2.1; omega
  have bm := b3 i hi
  have bn := N3.2.2.2.2 i hi
  have key : ∀ lf, lf ≤ 1 → ∃ c', f11_goOnTrial (nI K) (nI lf) c2 = some c' ∧ bxC (yrs S (S 0 4) (fun _ => d50 S) (psS S i) (bxS S i) K) (psS S i) 51 c' ∧ frC c c' ∧ (lf = 1 → c'.1 51 8 = nI (yrs S (S 0 4) (fun _ => d50 S) (psS S i) (bxS S i) K 9)) := fun lf hlf => by
    obtain ⟨c', a, b, d, e⟩ := goOnTrial_ex w0 w1 w C4 T4 L4 lM hY hlf wb x4
    exact ⟨c', a, b, f4.fr.tr d.fr, fun z => e z l4⟩
  have q24 : m3.1 24 (6 + i) = nI (yrs S (S 0 4) (fun _ => d50 S) (psS S i) (bxS S i) K 2) := bm.2.1
  have q25 : m3.1 25 (6 + i) = nI (yrs S (S 0 4) (fun _ => d50 S) (psS S i) (bxS S i) K 3) := bm.2.2.1
  have q26 : m3.1 26 (6 + i) = nI (yrs S (S 0 4) (fun _ => d50 S) (psS S i) (bxS S i) K 8) := bm.2.2.2.1
  have q27 : m3.1 27 (6 + i) = nI (yrs S (S 0 4) (fun _ => d50 S) (psS S i) (bxS S i) K 9) := bm.2.2.2.2.1
  have k0 := key 0 (by omega)
  have k1 := key 1 (by omega)
  obtain ⟨d0, a0, b0, g0, -⟩ := k0
  obtain ⟨d1, a1, b1, g1, l1⟩ := k1
  have a0 : f11_goOnTrial (nI K) 0 c2 = some d0 := a0
  have a1 : f11_goOnTrial (nI K) 1 c2 = some d1 := a1
  have l1 := l1 rfl
  have v0 : d0.1 (8 + 2 * i) 7 = nI (S 8 i) := (g0.1 _ _ (by unfold scrC; omega)).trans (hC.2.2.2.2 i hi).2.2.2.2.2.1
  have v1 : d1.1 (8 + 2 * i) 8 = nI (S 9 i) := (g1.1 _ _ (by unfold scrC; omega)).trans (hC.2.2.2.2 i hi).2.2.2.2.2.2.1
  have cs : j = 0 ∨ j = 1 ∨ j = 2 ∨ j = 3 := by omega
  simp only [h, h2, h3, one_ne, if_false, gd, inb_t (show i < 6 by omega) (by omega), inb_t (show i < 12 by omega) (by omega), if_true, ix_nI (show i < 2 ^ 31 by omega), e4, Option.bind_some, e2, e3, six_i, inb_t (show 6 + i < 12 by omega) (by omega), ix_nI (show 6 + i < 2 ^ 31 by omega), f11_ahead_61, a0, a1, q24, q25, q26, q27, bn.2.2.2.2.1, bn.2.2.2.2.2.1, b0.2.2.1, b0.2.2.2.1, b0.2.2.2.2.1, l1, v0, v1]
  rcases cs with rfl | rfl | rfl | rfl
  · simp only [show ((nI 0 : Int32) = 2) = False from by decide, show ((nI 0 : Int32) = 0) = True from by decide, if_true, if_false]
    exact ⟨_, _, _, rfl, rfl, g0, fr.tr f3⟩
  · simp only [show ((nI 1 : Int32) = 2) = False from by decide, show ((nI 1 : Int32) = 0) = False from by decide, show ((nI 1 : Int32) = 1) = True from by decide, if_true, if_false]
    exact ⟨_, _, _, rfl, rfl, g0, fr.tr f3⟩
  · simp only [show ((nI 2 : Int32) = 2) = True from by decide, show ((nI 2 : Int32) = 0) = False from by decide, show ((nI 2 : Int32) = 1) = False from by decide, if_true, if_false]
    exact ⟨_, _, _, rfl, rfl, g1, fr.tr f3⟩
  · simp only [show ((nI 3 : Int32) = 2) = False from by decide, show ((nI 3 : Int32) = 0) = False from by decide, show ((nI 3 : Int32) = 1) = False from by decide, if_true, if_false]
    exact ⟨_, _, _, rfl, rfl, g0, fr.tr f3⟩
noncomputable def rdB (S : Sp) (K i : Nat) : Bool := decide (yrs S (S 0 4) (fun _ => d50 S) (psS S i) (bxS S i) K 2 = 0 ∧ 0 < S 2 i)
theorem runC {S : Sp} {t K : Nat} {c m : Hp} (w0 : wfNow S) (w1 : wfTold S) (w : wfLaws S) (hC : nowC S c) (hT : toldC S t c) (hL : lawC S t c) (lM : lawM S m) (hK : K ≤ 99) : ∃ c', f11_runDown_16 (nI K) 0 0 c = some (orB (rdB S K) (S 0 0), c') ∧ frC c c' := by
  have hn := w0.1
  unfold f11_runDown_16
  obtain ⟨⟨x, y, h⟩, e, e1, e2, f⟩ := lp_walk (f := fun z : Int32 × Int32 × Hp => f11_runDown_16_s (nI K) z.1 z.2.1 z.2.2) (fun i z => z.1 = orB (rdB S K) i ∧ z.2.1 = nI i ∧ fr51 c z.2.2) (S 0 0) (0, 0, c) ⟨rfl, rfl, fr51.rf⟩ (fun i z hi hI => by
    obtain ⟨x, y, h⟩ := z
    dsimp only at hI
    obtain ⟨rfl, rfl, f⟩ := hI
    have C1 := hC.fr w0 f.fr
    obtain ⟨c2, e4, f4, x4, l4⟩ := trial_ex w0 C1 hi
    have C2 := C1.fr w0 f4.fr
    obtain ⟨c3, a, b, d, -⟩ := goOnTrial_ex (lf := 0) w0 w1 w C2 ((hT.fr hn f.fr).fr hn f4.fr) ((hL.f f.fr).f f4.fr) lM (show S 0 4 + K ≤ 12000 by have := w0.2.1; omega) (by omega) (wf_bx w0 hi) x4
    have a : f11_goOnTrial (nI K) 0 c2 = some c3 := a
    have C3 := C2.fr w0 d.fr
    have wi := w0.2.2.2.2 i hi
    have wy := (wf_yrs (S := S) (y0 := S 0 4) (ds := fun _ => d50 S) (wf_bx w0 hi) K).2.1
    refine ⟨(orB (rdB S K) (i + 1), nI (i + 1), c3), ?_, rfl, rfl, (f.tr f4).tr d⟩
    simp only [f11_runDown_16_s, f11_runDown_80, lt, C1.1, nI_ge hi (show S 0 0 < 2 ^ 31 by omega), if_false, gd, inb_t (show i < 6 by omega) (by omega), if_true, ix_nI (show i < 2 ^ 31 by omega), e4, Option.bind_some, a, b.2.2.1, (C3.2.2.2.2 i hi).2.2.2.1, nI_1, orB, rdB]
    have k1 : (nI (yrs S (S 0 4) (fun _ => d50 S) (psS S i) (bxS S i) K 2) = (0 : Int32)) ↔ yrs S (S 0 4) (fun _ => d50 S) (psS S i) (bxS S i) K 2 = 0 := by rw [show (0 : Int32) = nI 0 from rfl]; exact nI_eq (by omega) (by omega)
    have k2 : (nI (S 2 i) ≤ (0 : Int32)) ↔ S 2 i ≤ 0 := by rw [show (0 : Int32) = nI 0 from rfl]; exact nI_leI (by omega) (by omega)
    simp only [k1, k2, decide_eq_true_eq]
    by_cases q1 : yrs S (S 0 4) (fun _ => d50 S) (psS S i) (bxS S i) K 2 = 0
    · by_cases q2 : S 2 i ≤ 0
      · rw [if_pos q1, if_pos q2, if_neg (by omega)]
      · rw [if_pos q1, if_neg q2, if_pos (by omega)]
    · rw [if_neg q1, if_neg (by omega)])
  dsimp only at e1 e2 f
  subst e1 e2
  refine ⟨h, ?_, f.fr⟩
  rw [e]
  refine lp_inr (o := some _) ?_
  simp only [f11_runDown_16_s, (hC.fr w0 f.fr).1, nI_le (Nat.le_refl (S 0 0)) (show S 0 0 < 2 ^ 31 by omega), if_true, Option.map_some]
theorem op_runDown {S : Sp} {t : Nat} {c m : Hp} (w0 : wfNow S) (w1 : wfTold S) (w : wfLaws S) (hC : nowC S c) (hM : nowM S m) (hT : toldC S t c) (hU : toldM S m) (hL : lawC S t c) (lM : lawM S m) (hz : bzM m) (x : Int32) : ∃ r c' m', f11_runDown x c = some (r, c') ∧ f12_runDown x m = some (r, m') ∧ frC c c' ∧ frM m m' := by
  have hn := w0.1
  obtain ⟨m1, em, fr⟩ := m0_ex m
  have hM1 := hM.fr w0 fr
  simp only [f11_runDown, f12_runDown, em, lt, isWithin_eq, isIn_eq, Option.bind_some]
  rcases wi_cases x 0 99 (by omega) (by omega) with h2 | ⟨K, -, hK, rfl, h2⟩
  · simp only [show wi x 0 99 = 0 from h2, if_true]; exact ⟨_, _, _, rfl, rfl, frC.rf, fr⟩
  have h2 : wi (nI K) 0 99 = 1 := h2
  obtain ⟨m2, m3, e2, e3, f3, N3, b3⟩ := wentM_ex (t := t) w0 w1 w hL hM1 (hU.fr fr) (lM.f fr) (hz.fr fr) (show K ≤ 1000 by omega)
  obtain ⟨c', ec, fc⟩ := runC w0 w1 w hC hT hL lM hK
  simp only [h2, one_ne, if_false, ec, e2, e3, Option.bind_some]
  refine ⟨_, _, m3, rfl, ?_, fc, fr.tr f3⟩
  unfold f12_runDown_30
  refine lp_for1 (f := fun z : Int32 × Int32 => f12_runDown_30_s z.1 z.2 m3) (fun i => (orB (rdB S K) i, nI i)) (S 0 0) (fun i hi => ?_) ?_
  · have wi := w0.2.2.2.2 i hi
    have wy := (wf_yrs (S := S) (y0 := S 0 4) (ds := fun _ => d50 S) (wf_bx w0 hi) K).2.1
    have q24 : m3.1 24 (6 + i) = nI (yrs S (S 0 4) (fun _ => d50 S) (psS S i) (bxS S i) K 2) := (b3 i hi).2.1
    simp only [f12_runDown_30_s, f12_runDown_66, f12_runDown_67, lt, N3.1, nI_ge hi (show S 0 0 < 2 ^ 31 by omega), if_false, gd, inb_t (show i < 12 by omega) (by omega), if_true, ix_nI (show i < 2 ^ 31 by omega), six_i, inb_t (show 6 + i < 12 by omega) (by omega), ix_nI (show 6 + i < 2 ^ 31 by omega), q24, (N3.2.2.2.2 i hi).2.2.1, nI_1, orB, rdB, Int32.or_zero]
    have k1 : (nI (yrs S (S 0 4) (fun _ => d50 S) (psS S i) (bxS S i) K 2) = (0 : Int32)) ↔ yrs S (S 0 4) (fun _ => d50 S) (psS S i) (bxS S i) K 2 = 0 := by rw [show (0 : Int32) = nI 0 from rfl]; exact nI_eq (by omega) (by omega)
    have k2 : (nI (S 2 i) ≤ (0 : Int32)) ↔ S 2 i ≤ 0 := by rw [show (0 : Int32) = nI 0 from rfl]; exact nI_leI (by omega) (by omega)
    simp only [k1, k2, decide_eq_true_eq]
    by_cases q2 : S 2 i ≤ 0
    · rw [if_pos q2, if_neg (by omega)]
    · by_cases q1 : yrs S (S 0 4) (fun _ => d50 S) (psS S i) (bxS S i) K 2 = 0
      · rw [if_neg q2, if_pos q1, if_pos (by omega)]
      · rw [if_neg q2, if_neg q1, if_neg (by omega)]
  · simp only [f12_runDown_30_s, N3.1, nI_le (Nat.le_refl (S 0 0)) (show S 0 0 < 2 ^ 31 by omega), if_true]
/-- the reference's trial as it goes, k years behind m -/
def YA (S : Sp) (m : Hp) (k : Nat) (h : Hp) : Prop := YM S 1 (S 0 0) (S 0 4) (S 0 7) (S 0 5) false false none (bxS S) (psS S) m k h
theorem YA.step {S : Sp} {t k : Nat} {c m h : Hp} (w0 : wfNow S) (w1 : wfTold S) (w : wfLaws S) (hL : lawC S t c) (cx : cxM S (S 0 0) (S 0 7) false false none m) (hk : k ≤ 2000) (i : YA S m k h) : ∃ h', f12_yearGoes 1 h = some h' ∧ YA S m (k + 1) h' :=
  YM.step (s := 1) (Y := S 0 4) w hL cx (Nat.le_refl 1) w0.1 (fun j h => by cases h) w1.2.2.2.1 w0.2.2.1 (by have := w0.2.1; omega) (fun b hb _ => wf_bx w0 hb) i
theorem YA.bx {S : Sp} {k b : Nat} {m h : Hp} (w1 : wfTold S) (i : YA S m k h) (hb : b < S 0 0) : bxM (yrs S (S 0 4) (fun _ => d50 S) (psS S b) (bxS S b) k) (psS S b) 1 b h := by
  have := i.1 b hb (by intro h; cases h)
  rw [dsS_as w1.2.2.2.1] at this
  exact this
theorem YA.fr {S : Sp} {k : Nat} {m h : Hp} (w1 : wfTold S) (h57 : m.2.1 0 57 = lN (S 0 5)) (i : YA S m k h) : frM m h :=
  i.2.2.2.2.m rfl (by rw [i.2.2.2.1, nmS_as w1.2.2.2.1, h57])
theorem lasts_none {S : Sp} {t b : Nat} {c m : Hp} (w0 : wfNow S) (w1 : wfTold S) (w : wfLaws S) (hL : lawC S t c) (cx : cxM S (S 0 0) (S 0 7) false false none m) (h57 : m.2.1 0 57 = lN (S 0 5)) (hb : b < S 0 0) : ∀ (n k : Nat) (h : Hp), k + n = 1000 → YA S m k h → (∀ j, k ≤ j → j < 1000 → 0 < yrs S (S 0 4) (fun _ => d50 S) (psS S b) (bxS S b) j 2) → ∃ h', lp (fun z : Int32 × Hp => f12_lasts_21_s (nI b) z.1 z.2) (nI k, h) = some (-2, h') ∧ frM m h'
  | 0, k, h, hk, i, _ => by
    refine ⟨h, lp_inr (o := some _) ?_, i.fr w1 h57⟩
    have : (999 : Int32) < nI k := by rw [lit]; exact nI_lt (by omega) (by omega)
    simp only [f12_lasts_21_s, this, if_true, Option.map_some]
  | n + 1, k, h, hk, i, hp => by
    have hn := w0.1
    obtain ⟨h', e, i'⟩ := i.step w0 w1 w hL cx (by omega)
    obtain ⟨h2, e2, f2⟩ := lasts_none w0 w1 w hL cx h57 hb n (k + 1) h' (by omega) i' (fun j a d => hp j (by omega) d)
    refine ⟨h2, (lp_inl (f := fun z : Int32 × Hp => f12_lasts_21_s (nI b) z.1 z.2) (s := (nI k, h)) (s' := (nI (k + 1), h')) ?_).trans e2, f2⟩
    have wy := (wf_yrs (S := S) (y0 := S 0 4) (ds := fun _ => d50 S) (wf_bx w0 hb) k).2.1
    have q24 : h.1 24 (6 + b) = nI (yrs S (S 0 4) (fun _ => d50 S) (psS S b) (bxS S b) k 2) := (i.bx w1 hb).2.1
    have z1 : ¬ (999 : Int32) < nI k := by rw [lit]; exact nI_nlt (by omega) (by omega)
    have z2 := nI_ne0 (hp k (by omega) (by omega)) (by omega)
    simp only [f12_lasts_21_s, z1, if_false, gd, six_i, inb_t (show 6 + b < 12 by omega) (by omega), ix_nI (show 6 + b < 2 ^ 31 by omega), if_true, q24, z2, e, Option.bind_some, nI_1]
theorem lasts_both {S : Sp} {t b : Nat} {c m : Hp} (w0 : wfNow S) (w1 : wfTold S) (w : wfLaws S) (hC : nowC S c) (hT : toldC S t c) (hL : lawC S t c) (cx : cxM S (S 0 0) (S 0 7) false false none m) (h57 : m.2.1 0 57 = lN (S 0 5)) (hb : b < S 0 0) : ∀ (n k : Nat) (d h : Hp), k + n = 999 → bxC (yrs S (S 0 4) (fun _ => d50 S) (psS S b) (bxS S b) k) (psS S b) 51 d → fr51 c d → YA S m k h → ∃ r d' h', lp (fun z : Int32 × Hp => f11_lasts_28_s z.1 z.2) (nI k, d) = some (r, d') ∧ lp (fun z : Int32 × Hp => f12_lasts_21_s (nI b) z.1 z.2) (nI k, h) = some (r, h') ∧ frC c d' ∧ frM m h' := by
  have hn := w0.1
  have hkd := kd10 hT.2.1
  intro n
  induction n with
  | zero =>
    intro k d h hk hx fd i
    have wy := (wf_yrs (S := S) (y0 := S 0 4) (ds := fun _ => d50 S) (wf_bx w0 hb) k).2.1
    have q24 : h.1 24 (6 + b) = nI (yrs S (S 0 4) (fun _ => d50 S) (psS S b) (bxS S b) k 2) := (i.bx w1 hb).2.1
    have z0 : (999 : Int32) ≤ nI k := by rw [lit]; exact nI_le (by omega) (by omega)
    have z1 : ¬ (999 : Int32) < nI k := by rw [lit]; exact nI_nlt (by omega) (by omega)
    by_cases q : yrs S (S 0 4) (fun _ => d50 S) (psS S b) (bxS S b) k 2 = 0
    · refine ⟨nI k, d, h, lp_inr (o := some _) ?_, lp_inr (o := some _) ?_, fd.fr, i.fr w1 h57⟩
      · simp only [f11_lasts_28_s, f11_lasts_79, z0, if_true, hx.2.2.1, q, show (nI 0 : Int32) = 0 from rfl, Option.map_some]
      · simp only [f12_lasts_21_s, z1, if_false, gd, six_i, inb_t (show 6 + b < 12 by omega) (by omega), ix_nI (show 6 + b < 2 ^ 31 by omega), if_true, q24, q, show (nI 0 : Int32) = 0 from rfl, Option.map_some]
    · obtain ⟨h', e, f⟩ := lasts_none w0 w1 w hL cx h57 hb 1 k h (by omega) i (fun j a b => by rw [show j = k by omega]; omega)
      refine ⟨-2, d, h', lp_inr (o := some _) ?_, e, fd.fr, f⟩
      have z2 := nI_ne0 (show 0 < yrs S (S 0 4) (fun _ => d50 S) (psS S b) (bxS S b) k 2 by omega) (by omega)
      simp only [f11_lasts_28_s, f11_lasts_79, z0, if_true, hx.2.2.1, z2, if_false, Option.map_some]
  | succ n ih =>
    intro k d h hk hx fd i
    have wk := wf_yrs (S := S) (y0 := S 0 4) (ds := fun _ => d50 S) (wf_bx w0 hb) k
    have wy := wk.2.1
    have q24 : h.1 24 (6 + b) = nI (yrs S (S 0 4) (fun _ => d50 S) (psS S b) (bxS S b) k 2) := (i.bx w1 hb).2.1
    have z0 : ¬ (999 : Int32) ≤ nI k := by rw [lit]; exact nI_ge (by omega) (by omega)
    have z1 : ¬ (999 : Int32) < nI k := by rw [lit]; exact nI_nlt (by omega) (by omega)
    have eg := letGo_is wk hx
    cases hg : goB (yrs S (S 0 4) (fun _ => d50 S) (psS S b) (bxS S b) k) with
    | false =>
      rw [hg] at eg
      have eg : f0_isLetGo 51 d = some 0 := eg
      by_cases q : yrs S (S 0 4) (fun _ => d50 S) (psS S b) (bxS S b) k 2 = 0
      · refine ⟨nI k, d, h, lp_inr (o := some _) ?_, lp_inr (o := some _) ?_, fd.fr, i.fr w1 h57⟩
        · simp only [f11_lasts_28_s, f11_lasts_79, z0, if_false, eg, Option.bind_some, if_true, hx.2.2.1, q, show (nI 0 : Int32) = 0 from rfl, Option.map_some]
        · simp only [f12_lasts_21_s, z1, if_false, gd, six_i, inb_t (show 6 + b < 12 by omega) (by omega), ix_nI (show 6 + b < 2 ^ 31 by omega), if_true, q24, q, show (nI 0 : Int32) = 0 from rfl, Option.map_some]
      · obtain ⟨h', e, f⟩ := lasts_none w0 w1 w hL cx h57 hb (1000 - k) k h (by omega) i (fun j a _ => by
          obtain ⟨-, s2, -⟩ := yrs_stay hg (j - k)
          rw [show k + (j - k) = j by omega] at s2
          omega)
        refine ⟨-2, d, h', lp_inr (o := some _) ?_, e, fd.fr, f⟩
        have z2 := nI_ne0 (show 0 < yrs S (S 0 4) (fun _ => d50 S) (psS S b) (bxS S b) k 2 by omega) (by omega)
        simp only [f11_lasts_28_s, f11_lasts_79, z0, if_false, eg, Option.bind_some, if_true, hx.2.2.1, z2, Option.map_some]
    | true =>
      rw [hg] at eg
      have eg : f0_isLetGo 51 d = some 1 := eg
      have hp : 0 < yrs S (S 0 4) (fun _ => d50 S) (psS S b) (bxS S b) k 2 := by
        unfold goB at hg
        rw [decide_eq_true_eq] at hg
        exact hg.2
      have T1 := hT.fr hn fd.fr
      have N1 := hC.fr w0 fd.fr
      obtain ⟨d2, e2, x2, f2, -⟩ := trialYear (y := S 0 4 + k) (d := d50 S) (lf := 0) w (hL.f fd.fr) cx.1 (show S 0 4 + k ≤ 12000 by have := w0.2.1; omega) (by omega) wk hx
      have e2 : f0_goOneYear 51 (t + 14) (nI (S 0 4 + k)) (bI (d50 S)) 0 d = some d2 := e2
      obtain ⟨h2, e3, i2⟩ := i.step w0 w1 w hL cx (by omega)
      obtain ⟨r, d', h', a1, a2, a3, a4⟩ := ih (k + 1) d2 h2 (by omega) x2 (fd.tr f2) i2
      refine ⟨r, d', h', ?_, ?_, a3, a4⟩
      · refine (lp_inl (f := fun z : Int32 × Hp => f11_lasts_28_s z.1 z.2) (s := (nI k, d)) (s' := (nI (k + 1), d2)) ?_).trans a1
        simp only [f11_lasts_28_s, z0, if_false, eg, Option.bind_some, one_ne, T1.1, gd, hkd, if_true, isDampGoes_eq w1 T1, N1.2.1, nI_add, e2, nI_1]
      · refine (lp_inl (f := fun z : Int32 × Hp => f12_lasts_21_s (nI b) z.1 z.2) (s := (nI k, h)) (s' := (nI (k + 1), h2)) ?_).trans a2
        have z2 := nI_ne0 hp (by omega)
        simp only [f12_lasts_21_s, z1, if_false, gd, six_i, inb_t (show 6 + b < 12 by omega) (by omega), ix_nI (show 6 + b < 2 ^ 31 by omega), if_true, q24, z2, e3, Option.bind_some, nI_1]
theorem op_lasts {S : Sp} {t : Nat} {c m : Hp} (w0 : wfNow S) (w1 : wfTold S) (w : wfLaws S) (hC : nowC S c) (hM : nowM S m) (hT : toldC S t c) (hU : toldM S m) (hL : lawC S t c) (lM : lawM S m) (hz : bzM m) (x : Int32) : ∃ r c' m', f11_lasts x c = some (r, c') ∧ f12_lasts x m = some (r, m') ∧ frC c c' ∧ frM m m' := by
  have hn := w0.1
  obtain ⟨m1, em, fr⟩ := m0_ex m
  have hM1 := hM.fr w0 fr
  simp only [f11_lasts, f12_lasts, em, lt, isBoxC, isBoxM, hC.1, hM1.1, Option.bind_some]
  rcases bi_cases x (S 0 0) (by omega) with h | ⟨i, hi, rfl, h⟩
  · simp only [h, if_true]; exact ⟨_, _, _, rfl, rfl, frC.rf, fr⟩
  obtain ⟨m2, e2, f2, cx, hb, h30, h57, -, -, N1⟩ := laid_ex w0 hM1 (hU.fr fr) (lM.f fr) (hz.fr fr)
  obtain ⟨c2, e4, f4, x4, l4⟩ := trial_ex w0 hC hi
  obtain ⟨r, d', h', a1, a2, a3, a4⟩ := lasts_both w0 w1 w hC hT hL cx h57 hi 999 0 c2 m2 (by omega) x4 f4 (YM.zero (fun b hbn _ => hb b hbn) h30 h57)
  simp only [h, one_ne, if_false, gd, inb_t (show i < 6 by omega) (by omega), if_true, ix_nI (show i < 2 ^ 31 by omega), e4, e2, Option.bind_some]
  exact ⟨r, d', h', a1, a2, a3, (fr.tr f2).tr a4⟩
