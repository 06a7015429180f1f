/-! What was found: whose, sours, ask. -/
/-- 0 14 how many, 0 15 known (0 all, else one more); of each: 15 strike, 16 place or aim, 17 sound, 18 is -/
def kI (n : Nat) : Int32 := if n = 0 then -1 else nI (n - 1)
def kb (S : Sp) : Nat := if S 0 15 = 0 then S 0 14 else S 0 15 - 1
def wfFnd (S : Sp) : Prop := S 0 14 ≤ 24 ∧ kb S ≤ S 0 14 ∧ ∀ j, j < S 0 14 → (S 15 j = 0 ∧ S 16 j < 8 ∧ S 17 j ≤ 9 ∧ S 18 j ≤ 1) ∨ (S 15 j = 1 ∧ S 16 j < j)
def fndC (S : Sp) (c : Hp) : Prop := c.1 39 5 = nI (S 0 14) ∧ c.1 39 6 = kI (S 0 15) ∧ ∀ j, j < S 0 14 → c.1 43 j = nI (S 15 j) ∧ c.1 40 j = nI (S 16 j) ∧ (S 15 j = 0 → c.1 41 j = nI (S 17 j) ∧ c.1 42 j = nI (S 18 j))
def fndM (S : Sp) (m : Hp) : Prop := m.1 0 65 = nI (S 0 14) ∧ m.1 0 66 = kI (S 0 15) ∧ ∀ j, j < S 0 14 → (S 15 j = 0 → m.1 34 (3 * j) = nI (S 16 j) ∧ m.1 34 (3 * j + 1) = nI (S 17 j) ∧ m.1 34 (3 * j + 2) = nI (S 18 j)) ∧ (S 15 j = 1 → m.1 34 (3 * j) = -1 ∧ m.1 34 (3 * j + 1) = nI (S 16 j))
theorem fndC.fr {S : Sp} {c c' : Hp} (h : fndC S c) (f : frC c c') : fndC S c' := by
  obtain ⟨h1, h2, h3⟩ := h
  refine ⟨(f.1 _ _ (by unfold scrC; omega)).trans h1, (f.1 _ _ (by unfold scrC; omega)).trans h2, fun j hj => ?_⟩
  obtain ⟨a, b, d⟩ := h3 j hj
  exact ⟨(f.1 _ _ (by unfold scrC; omega)).trans a, (f.1 _ _ (by unfold scrC; omega)).trans b, fun q => ⟨(f.1 _ _ (by unfold scrC; omega)).trans (d q).1, (f.1 _ _ (by unfold scrC; omega)).trans (d q).2⟩⟩
theorem fndM.fr {S : Sp} {c c' : Hp} (h : fndM S c) (f : frM c c') : fndM S c' := by
  obtain ⟨h1, h2, h3⟩ := h
  refine ⟨(f.1 _ _ (by unfold scrM; omega)).trans h1, (f.1 _ _ (by unfold scrM; omega)).trans h2, fun j hj => ?_⟩
  obtain ⟨a, b⟩ := h3 j hj
  exact ⟨fun q => ⟨(f.1 _ _ (by unfold scrM; omega)).trans (a q).1, (f.1 _ _ (by unfold scrM; omega)).trans (a q).2.1, (f.1 _ _ (by unfold scrM; omega)).trans (a q).2.2⟩, fun q => ⟨(f.1 _ _ (by unfold scrM; omega)).trans (b q).1, (f.1 _ _ (by unfold scrM; omega)).trans (b q).2⟩⟩
theorem firstKnown_eq {S : Sp} {c : Hp} (w : wfFnd S) (h : fndC S c) : f3_firstKnown c = some (nI (kb S)) := by
  unfold f3_firstKnown kb
  rw [h.2.1, h.1]
  unfold kI
  by_cases q : S 0 15 = 0
  · rw [if_pos q, if_pos q, if_pos rfl]
  · rw [if_neg q, if_neg q]
    have hk := w.2.1
    unfold kb at hk
    rw [if_neg q] at hk
    have h24 := w.1
    have : ¬ nI (S 0 15 - 1) = (-1 : Int32) := by
      intro e
      have e := congrArg Int32.toInt e
      rw [nI_toInt (by omega), show ((-1 : Int32)).toInt = -1 from by decide] at e
      omega
    rw [if_neg this]
theorem knownBy_eq {S : Sp} {m : Hp} (w : wfFnd S) (h : fndM S m) : f12_knownBy m = some (nI (kb S)) := by
  unfold f12_knownBy kb
  rw [h.2.1, h.1]
  unfold kI
  by_cases q : S 0 15 = 0
  · rw [if_pos q, if_pos q, if_neg (by decide)]
  · rw [if_neg q, if_neg q]
    have hk := w.2.1
    unfold kb at hk
    rw [if_neg q] at hk
    have h24 := w.1
    rw [if_pos (nI_pos' (by omega))]
def dn (i : Nat) : Int32 := if i = 0 then -1 else nI (i - 1)
theorem dn_sub (n : Nat) : nI n - 1 = dn n := by
  unfold dn
  cases n with
  | zero => decide
  | succ n => rw [if_neg (by omega)]; exact nI_pred n
theorem dn_S (i : Nat) : dn (i + 1) = nI i := by unfold dn; rw [if_neg (by omega)]; rfl
theorem dn_step (i : Nat) : nI i + (-1) = dn i := by
  unfold dn
  cases i with
  | zero => decide
  | succ n => rw [if_neg (by omega)]; exact pk_m1 n
theorem dn_0 : dn 0 < 0 := by decide
/-- the marks of the two sides: struck there, not counted here -/
def Mk (S : Sp) (c m : Hp) : Prop := ∀ j, j < kb S → (c.1 44 j = 0 ∧ m.1 35 j = 1) ∨ (c.1 44 j = 1 ∧ m.1 35 j = 0)
theorem sift_1 {S : Sp} {c : Hp} (w : wfFnd S) (hC : fndC S c) : ∃ c', f3_sift c = f3_sift_23 c' ∧ frC c c' ∧ ∀ j, j < S 0 14 → c'.1 44 j = 0 := by
  have h24 := w.1
  have key : ∀ n, n ≤ S 0 14 → ∃ c', f3_sift_2 0 c = lp (fun z : Int32 × Hp => f3_sift_2_s z.1 z.2) (nI n, c') ∧ frC c c' ∧ ∀ j, j < n → c'.1 44 j = 0 := by
    intro n
    induction n with
    | zero => intro _; exact ⟨c, rfl, frC.rf, fun j hj => by omega⟩
    | succ n ih =>
      intro hn
      obtain ⟨c1, e, f, hz⟩ := ih (by omega)
      have hC1 := hC.fr f
      refine ⟨wI c1 44 n 0, ?_, f.w (by unfold scrC; omega), fun j hj => ?_⟩
      · rw [e]
        refine lp_inl ?_
        simp only [f3_sift_2_s, hC1.1, nI_ge (show n < S 0 14 by omega) (show S 0 14 < 2 ^ 31 by omega), if_false, gd, inb_t (show n < 24 by omega) (by omega), if_true, ix_nI (show n < 2 ^ 31 by omega), lt, nI_1]
      · by_cases q : j = n
        · subst q; rw [wI_s]
        · rw [wI_o (by omega)]; exact hz j (by omega)
  obtain ⟨c1, e, f, hz⟩ := key (S 0 14) (Nat.le_refl _)
  have hC1 := hC.fr f
  refine ⟨c1, ?_, f, hz⟩
  unfold f3_sift
  rw [e]
  refine lp_inr ?_
  simp only [f3_sift_2_s, hC1.1, nI_le (Nat.le_refl (S 0 14)) (show S 0 14 < 2 ^ 31 by omega), if_true]
theorem lay_1 {S : Sp} {m : Hp} (w : wfFnd S) (hM : fndM S m) : ∃ m', f12_layCounts m = f12_layCounts_23 m' ∧ frM m m' ∧ (∀ q k, q ≠ 35 → m'.1 q k = m.1 q k) ∧ ∀ j, j < kb S → m'.1 35 j = 1 := by
  have h24 := w.1
  have hkb := w.2.1
  have key : ∀ n, n ≤ kb S → ∃ m', f12_layCounts_2 0 m = lp (fun z : Int32 × Hp => f12_layCounts_2_s z.1 z.2) (nI n, m') ∧ frM m m' ∧ (∀ q k, q ≠ 35 → m'.1 q k = m.1 q k) ∧ ∀ j, j < n → m'.1 35 j = 1 := by
    intro n
    induction n with
    | zero => intro _; exact ⟨m, rfl, frM.rf, fun _ _ _ => rfl, fun j hj => by omega⟩
    | succ n ih =>
      intro hn
      obtain ⟨c1, e, f, ho, hz⟩ := ih (by omega)
      have hM1 := hM.fr f
      refine ⟨wI c1 35 n 1, ?_, f.w (by unfold scrM; omega), fun q k hq => ?_, fun j hj => ?_⟩
      · rw [e]
        refine lp_inl ?_
        simp only [f12_layCounts_2_s, knownBy_eq w hM1, Option.bind_some, nI_ge (show n < kb S by omega) (show kb S < 2 ^ 31 by omega), if_false, gd, inb_t (show n < 24 by omega) (by omega), if_true, ix_nI (show n < 2 ^ 31 by omega), lt, nI_1]
      · rw [wI_o (by omega)]; exact ho q k hq
      · by_cases q : j = n
        · subst q; rw [wI_s]
        · rw [wI_o (by omega)]; exact hz j (by omega)
  obtain ⟨m1, e, f, ho, hz⟩ := key (kb S) (Nat.le_refl _)
  have hM1 := hM.fr f
  refine ⟨m1, ?_, f, ho, hz⟩
  unfold f12_layCounts
  rw [e]
  refine lp_inr ?_
  simp only [f12_layCounts_2_s, knownBy_eq w hM1, Option.bind_some, nI_le (Nat.le_refl (kb S)) (show kb S < 2 ^ 31 by omega), if_true]
theorem sift_ex {S : Sp} {c m : Hp} (w : wfFnd S) (hC : fndC S c) (hM : fndM S m) : ∃ c' m', f3_sift c = some c' ∧ f12_layCounts m = some m' ∧ frC c c' ∧ frM m m' ∧ (∀ q k, q ≠ 35 → m'.1 q k = m.1 q k) ∧ Mk S c' m' := by
  have h24 := w.1
  have hkb := w.2.1
  obtain ⟨c1, e1, f1, z1⟩ := sift_1 w hC
  obtain ⟨m1, e2, f2, o2, z2⟩ := lay_1 w hM
  have hC1 := hC.fr f1
  have hM1 := hM.fr f2
  rw [e1, e2]
  simp only [f3_sift_23, f12_layCounts_23, firstKnown_eq w hC1, knownBy_eq w hM1, Option.bind_some, dn_sub, f3_sift_30, f12_layCounts_30]
  have key := lp_sim (f := fun z : Int32 × Hp => f3_sift_30_s z.1 z.2) (g := fun z : Int32 × Hp => f12_layCounts_30_s z.1 z.2) (Q := fun r r' => frC c r ∧ frM m r' ∧ (∀ q k, q ≠ 35 → r'.1 q k = m.1 q k) ∧ Mk S r r') (I := fun n s s' => ∃ i, i ≤ kb S ∧ n = i ∧ s.1 = dn i ∧ s'.1 = dn i ∧ frC c s.2 ∧ frM m s'.2 ∧ (∀ q k, q ≠ 35 → s'.2.1 q k = m.1 q k) ∧ Mk S s.2 s'.2) ?_ (kb S) (dn (kb S), c1) (dn (kb S), m1) ⟨kb S, Nat.le_refl _, rfl, rfl, rfl, f1, f2, o2, fun j hj => Or.inl ⟨z1 j (by omega), z2 j hj⟩⟩
  · obtain ⟨r, r', e, e', a, b, o, d⟩ := key
    exact ⟨r, r', e, e', a, b, o, d⟩
  · rintro n ⟨x, h⟩ ⟨y, k⟩ ⟨i, hi, rfl, ex, ey, fc, fm, om, mk⟩
    have ex : x = dn n := ex
    have ey : y = dn n := ey
    have fc : frC c h := fc
    have fm : frM m k := fm
    have om : ∀ q k', q ≠ 35 → k.1 q k' = m.1 q k' := om
    have mk : Mk S h k := mk
    subst ex; subst ey
    cases n with
    | zero =>
      refine ⟨.inr h, .inr k, ?_, ?_, fc, fm, om, mk⟩
      · simp only [f3_sift_30_s, dn_0, if_true]
      · simp only [f12_layCounts_30_s, dn_0, if_true]
    | succ i =>
      have hC2 : fndC S h := hC.fr fc
      have hM2 : fndM S k := hM.fr fm
      have mk : ∀ j, j < kb S → (h.1 44 j = 0 ∧ k.1 35 j = 1) ∨ (h.1 44 j = 1 ∧ k.1 35 j = 0) := mk
      have hif : i < S 0 14 := by omega
      obtain ⟨c43, c40, -⟩ := hC2.2.2 i hif
      obtain ⟨mf, ms⟩ := hM2.2.2 i hif
      have e3 : (3 * nI i : Int32) = nI (3 * i) := by rw [lit, pk_mul]
      have e31 : (3 * nI i + 1 : Int32) = nI (3 * i + 1) := by rw [e3, nI_1]
      have stay : SS (fun a b : Int32 × Hp => ∃ n', n' < i + 1 ∧ ∃ i', i' ≤ kb S ∧ n' = i' ∧ a.1 = dn i' ∧ b.1 = dn i' ∧ frC c a.2 ∧ frM m b.2 ∧ (∀ q k, q ≠ 35 → b.2.1 q k = m.1 q k) ∧ Mk S a.2 b.2) (fun r r' => frC c r ∧ frM m r' ∧ (∀ q k, q ≠ 35 → r'.1 q k = m.1 q k) ∧ Mk S r r') (.inl (dn i, h)) (.inl (dn i, k)) := ⟨i, by omega, i, by omega, rfl, rfl, rfl, fc, fm, om, mk⟩
      rcases w.2.2 i hif with ⟨q0, q1, q2, q3⟩ | ⟨q0, q1⟩
      · have hz : nI (S 15 i) = 0 := by rw [q0]; rfl
        have hp := (mf q0).1
        refine ⟨_, _, ?_, ?_, stay⟩
        · simp only [f3_sift_30_s, f3_sift_64, dn_S, nI_pos (show i < 2 ^ 31 by omega), if_false, gd, inb_t (show i < 24 by omega) (by omega), if_true, ix_nI (show i < 2 ^ 31 by omega), c43, hz, dn_step]
        · rcases mk i (by omega) with ⟨-, b⟩ | ⟨-, b⟩
          · simp only [f12_layCounts_30_s, f12_layCounts_70, dn_S, nI_pos (show i < 2 ^ 31 by omega), if_false, gd, inb_t (show i < 24 by omega) (by omega), if_true, ix_nI (show i < 2 ^ 31 by omega), b, one_ne, e3, inb_t (show 3 * i < 72 by omega) (by omega), ix_nI (show 3 * i < 2 ^ 31 by omega), hp, nI_pos' (show S 16 i < 2 ^ 31 by omega), dn_step]
          · simp only [f12_layCounts_30_s, f12_layCounts_70, dn_S, nI_pos (show i < 2 ^ 31 by omega), if_false, gd, inb_t (show i < 24 by omega) (by omega), if_true, ix_nI (show i < 2 ^ 31 by omega), b, dn_step]
      · have hz : ¬ nI (S 15 i) = 0 := by rw [q0]; decide
        obtain ⟨hp, hp1⟩ := ms q0
        rcases mk i (by omega) with ⟨a, b⟩ | ⟨a, b⟩
        · refine ⟨.inl (dn i, wI h 44 (S 16 i) 1), .inl (dn i, wI k 35 (S 16 i) 0), ?_, ?_, i, by omega, i, by omega, rfl, rfl, rfl, fc.w (by unfold scrC; omega), fm.w (by unfold scrM; omega), fun q k' hq => ?_, fun j hj => ?_⟩
          · simp only [f3_sift_30_s, f3_sift_64, dn_S, nI_pos (show i < 2 ^ 31 by omega), if_false, gd, inb_t (show i < 24 by omega) (by omega), if_true, ix_nI (show i < 2 ^ 31 by omega), c43, hz, a, c40, inb_t (show S 16 i < 24 by omega) (by omega), ix_nI (show S 16 i < 2 ^ 31 by omega), lt, dn_step]
          · simp only [f12_layCounts_30_s, f12_layCounts_70, dn_S, nI_pos (show i < 2 ^ 31 by omega), if_false, gd, inb_t (show i < 24 by omega) (by omega), if_true, ix_nI (show i < 2 ^ 31 by omega), b, one_ne, e3, inb_t (show 3 * i < 72 by omega) (by omega), ix_nI (show 3 * i < 2 ^ 31 by omega), hp, show ((0 : Int32) ≤ -1) = False from by decide, nI_1, inb_t (show 3 * i + 1 < 72 by omega) (by omega), ix_nI (show 3 * i + 1 < 2 ^ 31 by omega), hp1, inb_t (show S 16 i < 24 by omega) (by omega), ix_nI (show S 16 i < 2 ^ 31 by omega), lt, dn_step]
          · show (wI k 35 (S 16 i) 0).1 q k' = _
            rw [wI_o (by omega)]; exact om q k' hq
          · show ((wI h 44 (S 16 i) 1).1 44 j = 0 ∧ (wI k 35 (S 16 i) 0).1 35 j = 1) ∨ ((wI h 44 (S 16 i) 1).1 44 j = 1 ∧ (wI k 35 (S 16 i) 0).1 35 j = 0)
            by_cases q : j = S 16 i
            · subst q; rw [wI_s, wI_s]; exact Or.inr ⟨rfl, rfl⟩
            · rw [wI_o (by omega), wI_o (by omega)]; exact mk j hj
        · refine ⟨_, _, ?_, ?_, stay⟩
          · simp only [f3_sift_30_s, f3_sift_64, dn_S, nI_pos (show i < 2 ^ 31 by omega), if_false, gd, inb_t (show i < 24 by omega) (by omega), if_true, ix_nI (show i < 2 ^ 31 by omega), c43, hz, a, one_ne, dn_step]
          · simp only [f12_layCounts_30_s, f12_layCounts_70, dn_S, nI_pos (show i < 2 ^ 31 by omega), if_false, gd, inb_t (show i < 24 by omega) (by omega), if_true, ix_nI (show i < 2 ^ 31 by omega), b, dn_step]
/-- whether all that is known is so of a box, were it so false -/
theorem fit_eq {S : Sp} {c m : Hp} {b fl : Nat} (w0 : wfNow S) (w : wfFnd S) (hC0 : nowC S c) (hM0 : nowM S m) (hC : fndC S c) (hM : fndM S m) (mk : Mk S c m) (hb : b < S 0 0) (hf : fl ≤ 99) : ∃ r, f3_fit (8 + 2 * b) (nI fl) c = some r ∧ f12_fits (nI b) (nI fl) m = some r := by
  have h24 := w.1
  have hkb := w.2.1
  have hn := w0.1
  have bC := hC0.2.2.2.2 b hb
  have bM := hM0.2.2.2.2 b hb
  have wb := w0.2.2.2.2 b hb
  unfold f3_fit f12_fits f3_fit_2 f12_fits_2
  have key := lp_sim (f := fun z : Int32 => f3_fit_2_s (8 + 2 * b) (nI fl) z c) (g := fun z : Int32 => f12_fits_2_s (nI b) (nI fl) z m) (Q := fun r r' => r = r') (I := fun n s s' => ∃ j, j ≤ kb S ∧ n = kb S - j ∧ s = s' ∧ s = nI j) ?_ (kb S) 0 0 ⟨0, by omega, rfl, rfl, rfl⟩
  · obtain ⟨r, r', e, e', rfl⟩ := key
    exact ⟨r, e, e'⟩
  · rintro n s _ ⟨j, hj, hnj, rfl, rfl⟩
    by_cases he : j = kb S
    · subst he
      refine ⟨.inr 1, .inr 1, ?_, ?_, rfl⟩
      · simp only [f3_fit_2_s, firstKnown_eq w hC, Option.bind_some, nI_le (Nat.le_refl (kb S)) (show kb S < 2 ^ 31 by omega), if_true]
      · simp only [f12_fits_2_s, knownBy_eq w hM, Option.bind_some, nI_le (Nat.le_refl (kb S)) (show kb S < 2 ^ 31 by omega), if_true]
    · have hlt : j < kb S := by omega
      have hif : j < S 0 14 := by omega
      obtain ⟨c43, c40, c41⟩ := hC.2.2 j hif
      obtain ⟨mf, ms⟩ := hM.2.2 j hif
      have e3 : (3 * nI j : Int32) = nI (3 * j) := by rw [lit, pk_mul]
      have goOn : SS (fun a b : Int32 => ∃ n', n' < n ∧ ∃ j, j ≤ kb S ∧ n' = kb S - j ∧ a = b ∧ a = nI j) (fun r r' : Int32 => r = r') (.inl (nI (j + 1))) (.inl (nI (j + 1))) := ⟨kb S - (j + 1), by omega, j + 1, by omega, rfl, rfl, rfl⟩
      rcases w.2.2 j hif with ⟨q0, q1, q2, q3⟩ | ⟨q0, q1⟩
      · have hz : nI (S 15 j) = 0 := by rw [q0]; rfl
        obtain ⟨hp, hp1, hp2⟩ := mf q0
        obtain ⟨c41, c42⟩ := c41 q0
        rcases mk j hlt with ⟨a, b'⟩ | ⟨a, b'⟩
        · have e8 : (8 * nI b + nI (S 16 j) : Int32) = nI (8 * b + S 16 j) := by rw [lit, pk_mul, nI_add]
          have hh := f0_heardWith_eq (8 + 2 * b) (S 16 j) (nI fl) c q1
          rw [bC.2.2.2.2.2.2.2.2.2 (S 16 j) q1, bC.2.2.2.2.2.2.2.1, hrd_nI (wb.2.2.2.2.2.2.2.2 _ q1) hf wb.2.2.2.1.1] at hh
          have hh' := heardBy_eq (m.1 8 (8 * b + S 16 j)) (nI fl) (m.1 29 b)
          rw [bM.2.2.2.2.2.2.2.2 (S 16 j) q1, bM.2.2.2.2.2.2.1, hrd_nI (wb.2.2.2.2.2.2.2.2 _ q1) hf wb.2.2.2.1.1] at hh'
          have hN9 := hN_le (pin := S 7 (8 * b + S 16 j)) (fl := fl) (ms := S 4 b)
          have stepC : f3_fit_2_s (8 + 2 * b) (nI fl) (nI j) c = if (if hN (S 7 (8 * b + S 16 j)) fl (S 4 b) = S 17 j then 1 else 0) = S 18 j then some (.inl (nI (j + 1))) else some (.inr 0) := by
            simp only [f3_fit_2_s, f3_fit_53, f3_fit_64, firstKnown_eq w hC, Option.bind_some, nI_ge hlt (show kb S < 2 ^ 31 by omega), if_false, gd, inb_t (show j < 24 by omega) (by omega), if_true, ix_nI (show j < 2 ^ 31 by omega), c43, hz, a, c40, hh, c41, c42, nI_1]
            simp (disch := omega) only [lit, nI_eq]
            by_cases z : hN (S 7 (8 * b + S 16 j)) fl (S 4 b) = S 17 j
            · simp only [z, if_true]
            · simp only [z, if_false]
          have stepM : f12_fits_2_s (nI b) (nI fl) (nI j) m = if (if hN (S 7 (8 * b + S 16 j)) fl (S 4 b) = S 17 j then 1 else 0) = S 18 j then some (.inl (nI (j + 1))) else some (.inr 0) := by
            simp only [f12_fits_2_s, f12_fits_79, f12_fits_102, f12_fits_107, knownBy_eq w hM, Option.bind_some, nI_ge hlt (show kb S < 2 ^ 31 by omega), if_false, gd, inb_t (show j < 24 by omega) (by omega), if_true, ix_nI (show j < 2 ^ 31 by omega), b', one_ne, e3, inb_t (show 3 * j < 72 by omega) (by omega), ix_nI (show 3 * j < 2 ^ 31 by omega), hp, nI_pos' (show S 16 j < 2 ^ 31 by omega), e8, inb_t (show 8 * b + S 16 j < 96 by omega) (by omega), ix_nI (show 8 * b + S 16 j < 2 ^ 31 by omega), inb_t (show b < 12 by omega) (by omega), ix_nI (show b < 2 ^ 31 by omega), bM.2.2.2.2.2.2.2.2 (S 16 j) q1, bM.2.2.2.2.2.2.1, hh', nI_1]
            rw [show (nI (3 * j) + 2 : Int32) = nI (3 * j + 2) from by rw [lit, nI_add]]
            simp only [inb_t (show 3 * j + 1 < 72 by omega) (by omega), ix_nI (show 3 * j + 1 < 2 ^ 31 by omega), inb_t (show 3 * j + 2 < 72 by omega) (by omega), ix_nI (show 3 * j + 2 < 2 ^ 31 by omega), hp1, hp2, if_true]
            simp (disch := omega) only [lit, nI_eq]
            have h18 : S 18 j = 0 ∨ S 18 j = 1 := by omega
            by_cases z : hN (S 7 (8 * b + S 16 j)) fl (S 4 b) = S 17 j
            · rcases h18 with h18 | h18 <;> simp [z, h18]
            · rcases h18 with h18 | h18 <;> simp [z, h18]
          by_cases z : (if hN (S 7 (8 * b + S 16 j)) fl (S 4 b) = S 17 j then 1 else 0) = S 18 j
          · rw [if_pos z] at stepC stepM
            exact ⟨_, _, stepC, stepM, goOn⟩
          · rw [if_neg z] at stepC stepM
            exact ⟨_, _, stepC, stepM, rfl⟩
        · refine ⟨_, _, ?_, ?_, goOn⟩
          · simp only [f3_fit_2_s, f3_fit_64, firstKnown_eq w hC, Option.bind_some, nI_ge hlt (show kb S < 2 ^ 31 by omega), if_false, gd, inb_t (show j < 24 by omega) (by omega), if_true, ix_nI (show j < 2 ^ 31 by omega), c43, hz, a, one_ne, nI_1]
          · simp only [f12_fits_2_s, f12_fits_107, knownBy_eq w hM, Option.bind_some, nI_ge hlt (show kb S < 2 ^ 31 by omega), if_false, gd, inb_t (show j < 24 by omega) (by omega), if_true, ix_nI (show j < 2 ^ 31 by omega), b', nI_1]
      · have hz : ¬ nI (S 15 j) = 0 := by rw [q0]; decide
        obtain ⟨hp, hp1⟩ := ms q0
        refine ⟨_, _, ?_, ?_, goOn⟩
        · simp only [f3_fit_2_s, f3_fit_64, firstKnown_eq w hC, Option.bind_some, nI_ge hlt (show kb S < 2 ^ 31 by omega), if_false, gd, inb_t (show j < 24 by omega) (by omega), if_true, ix_nI (show j < 2 ^ 31 by omega), c43, hz, nI_1]
        · rcases mk j hlt with ⟨a, b'⟩ | ⟨a, b'⟩
          · simp only [f12_fits_2_s, f12_fits_107, knownBy_eq w hM, Option.bind_some, nI_ge hlt (show kb S < 2 ^ 31 by omega), if_false, gd, inb_t (show j < 24 by omega) (by omega), if_true, ix_nI (show j < 2 ^ 31 by omega), b', one_ne, e3, inb_t (show 3 * j < 72 by omega) (by omega), ix_nI (show 3 * j < 2 ^ 31 by omega), hp, show ((0 : Int32) ≤ -1) = False from by decide, nI_1]
          · simp only [f12_fits_2_s, f12_fits_107, knownBy_eq w hM, Option.bind_some, nI_ge hlt (show kb S < 2 ^ 31 by omega), if_false, gd, inb_t (show j < 24 by omega) (by omega), if_true, ix_nI (show j < 2 ^ 31 by omega), b', nI_1]
