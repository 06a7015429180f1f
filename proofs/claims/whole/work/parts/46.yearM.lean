/-! A year of the reference's boxes. -/
theorem frY.rf {s b : Nat} {m : Hp} : frY s b m m := ⟨fun _ _ _ _ => rfl, fun _ _ _ => rfl, rfl⟩
theorem frY.s {s b : Nat} {m m' m'' : Hp} (h : frY s b m m') (t : sM m' m'') : frY s b m m'' := ⟨fun q k a d => (t.1 q k a).trans (h.1 q k a d), fun q a d => (t.2.1 q d).trans (h.2.1 q a d), t.2.2.trans h.2.2⟩
theorem frY.n {s b : Nat} {m m' m'' : Hp} (h : frY s b m m') (e1 : m''.1 = m'.1) (e2 : ∀ q, q ≠ 22 → m''.2.1 q = m'.2.1 q) (e3 : m''.2.2 = m'.2.2) : frY s b m m'' := ⟨fun q k a d => by rw [e1]; exact h.1 q k a d, fun q a d => (e2 q a).trans (h.2.1 q a d), e3.trans h.2.2⟩
theorem frY.w {s b p : Nat} {v : Int32} {m m' : Hp} (h : frY s b m m') (hp : 24 ≤ p ∧ p ≤ 27) : frY s b m (wI m' p (6 * s + b) v) := ⟨fun q k a d => (wI_o (by omega)).trans (h.1 q k a d), h.2.1, h.2.2⟩
theorem nmB_9 (B : Bx) (pc y v : Nat) : nmB (fun z => if z = 9 then v else B z) pc y = nmB B pc y := by
  funext k
  unfold nmB
  simp only [Nat.reduceEqDiff, if_false]
theorem letGo_M {S : Sp} {t s b y Y : Nat} {B P : Bx} {c m : Hp} (w : wfLaws S) (hC : lawC S t c) (hM : lawM S m) (hs : s ≤ 1) (hb : b < 6) (hY : Y ≤ 12000) (wb : wfB Y B P) (h : bxM B P s b m) (hy : m.1 30 s = nI y) : ∃ m', f12_letGo (nI s) (nI b) m = some m' ∧ bxM (letB S y P B) P s b m' ∧ frY s b m m' := by
  obtain ⟨w1, w2, w3, w4, w6, w8, w9, wp⟩ := wb
  obtain ⟨h1, h2, h3, h4, h5, h6, h7, h8⟩ := h
  generalize hB1 : (fun z => if z = 8 then B 8 + 1 else B z : Bx) = B1
  have b8 : B1 8 = B 8 + 1 := by rw [← hB1]; rfl
  have bo : ∀ z, z ≠ 8 → B1 z = B z := fun z hz => by rw [← hB1]; exact if_neg hz
  have wb1 : wfB (Y + 1) B1 P := ⟨by rw [bo 1 (by omega)]; exact w1, by rw [bo 2 (by omega)]; exact w2, by rw [bo 3 (by omega)]; exact w3, by rw [bo 4 (by omega)]; exact w4, by rw [bo 6 (by omega)]; exact w6, by rw [b8]; omega, by rw [bo 9 (by omega)]; omega, wp⟩
  have hm1 : hmB B1 P = hmB B P := by unfold hmB; rw [bo 3 (by omega), bo 4 (by omega)]
  have i12 := inb_t (show 6 * s + b < 12 by omega) (show 12 < 2 ^ 31 by omega)
  have x12 := ix_nI (show 6 * s + b < 2 ^ 31 by omega)
  obtain ⟨m4, e4⟩ : ∃ m4, m4 = wI m 26 (6 * s + b) (nI (B 8 + 1)) := ⟨_, rfl⟩
  have f4 : frY s b m m4 := by rw [e4]; exact frY.rf.w (by omega)
  have o4 : ∀ q k, ¬ (q = 26 ∧ k = 6 * s + b) → m4.1 q k = m.1 q k := fun q k n => by rw [e4]; exact wI_o n
  have x4 : bxM B1 P s b m4 := by
    refine ⟨?_, ?_, ?_, ?_, ?_, ?_, ?_, fun k hk => ?_⟩
    · rw [bo 1 (by omega), o4 _ _ (by omega)]; exact h1
    · rw [bo 2 (by omega), o4 _ _ (by omega)]; exact h2
    · rw [bo 3 (by omega), o4 _ _ (by omega)]; exact h3
    · rw [b8, e4, wI_s]
    · rw [bo 9 (by omega), o4 _ _ (by omega)]; exact h5
    · rw [bo 6 (by omega), o4 _ _ (by omega), o4 _ _ (by omega)]; exact h6
    · rw [bo 4 (by omega), o4 _ _ (by omega), o4 _ _ (by omega)]; exact h7
    · rw [o4 _ _ (by omega)]; exact h8 k hk
  have y4 : m4.1 30 s = nI y := (o4 _ _ (by omega)).trans hy
  obtain ⟨m5, e5, n5, o5, j5, r5⟩ := layNames_ex wb1 hs hb x4 y4
  have f5 := f4.n o5 j5 r5
  have x5 := x4.o o5
  have L5 : lawM S m5 := hM.o (fun q k a d => f5.1 q k (by omega) (by omega))
  obtain ⟨m6, e6, s6⟩ := boundLaw_ex (t := t) (l := 2) (a := hmB B1 P) (most := 99) w hC L5 (by omega) (by rw [bo 4 (by omega)]; exact w4) (by omega) n5
  have ec : f12_charmOf (nI s) (nI b) m4 = some (nI (bl (vL S 2 B1 P y) (hmB B1 P) 99), m6) := by
    have e6' : f12_boundLaw 2 (nI (hmB B1 P)) 99 m5 = some (nI (bl (vL S 2 B1 P y) (hmB B1 P) 99), m6) := e6
    simp only [f12_charmOf, e5, Option.bind_some, heardMany_eq wb1 hs hb x5, e6']
  have f6 := f5.s s6
  have x6 := x5.st s6.1
  have hle := bl_le (v := vL S 2 B1 P y) (a := hmB B1 P) (most := 99) (by omega) (by have := hmB_le B1 P; omega)
  generalize hv : bl (vL S 2 B1 P y) (hmB B1 P) 99 = v at *
  obtain ⟨m9, e9⟩ : ∃ m9, m9 = wI m6 27 (6 * s + b) (nI (B 9 + v)) := ⟨_, rfl⟩
  have f9 : frY s b m m9 := by rw [e9]; exact f6.w (by omega)
  have o9 : ∀ q k, ¬ (q = 27 ∧ k = 6 * s + b) → m9.1 q k = m6.1 q k := fun q k n => by rw [e9]; exact wI_o n
  generalize hB2 : (fun z => if z = 9 then B 9 + v else B1 z : Bx) = B2
  have c9 : B2 9 = B 9 + v := by rw [← hB2]; rfl
  have co : ∀ z, z ≠ 9 → B2 z = B1 z := fun z hz => by rw [← hB2]; exact if_neg hz
  have wb2 : wfB (Y + 1) B2 P := by
    obtain ⟨v1, v2, v3, v4, v6, v8, v9, vp⟩ := wb1
    exact ⟨by rw [co 1 (by omega)]; exact v1, by rw [co 2 (by omega)]; exact v2, by rw [co 3 (by omega)]; exact v3, by rw [co 4 (by omega)]; exact v4, by rw [co 6 (by omega)]; exact v6, by rw [co 8 (by omega)]; exact v8, by rw [c9]; omega, vp⟩
  have x9 : bxM B2 P s b m9 := by
    obtain ⟨y1, y2, y3, y5, y6, y7, y8, y9⟩ := x6
    refine ⟨?_, ?_, ?_, ?_, ?_, ?_, ?_, fun k hk => ?_⟩
    · rw [co 1 (by omega), o9 _ _ (by omega)]; exact y1
    · rw [co 2 (by omega), o9 _ _ (by omega)]; exact y2
    · rw [co 3 (by omega), o9 _ _ (by omega)]; exact y3
    · rw [co 8 (by omega), o9 _ _ (by omega)]; exact y5
    · rw [c9, e9, wI_s]
    · rw [co 6 (by omega), o9 _ _ (by omega), o9 _ _ (by omega)]; exact y7
    · rw [co 4 (by omega), o9 _ _ (by omega), o9 _ _ (by omega)]; exact y8
    · rw [o9 _ _ (by omega)]; exact y9 k hk
  have y9 : m9.1 30 s = nI y := (f9.1 _ _ (by omega) (by omega)).trans hy
  obtain ⟨m10, e10, n10, o10, j10, r10⟩ := layNames_ex wb2 hs hb x9 y9
  have f10 := f9.n o10 j10 r10
  have x10 := x9.o o10
  have L10 : lawM S m10 := hM.o (fun q k a d => f10.1 q k (by omega) (by omega))
  obtain ⟨m12, e12, s12⟩ := boundLaw_ex (t := t) (l := 0) (a := 1) (most := 9) w hC L10 (by omega) (by rw [co 4 (by omega), bo 4 (by omega)]; exact w4) (by omega) n10
  have f12 := f10.s s12
  have x12' := x10.st s12.1
  have hvv : vL S 0 B2 P y = vL S 0 B1 P y := by unfold vL; rw [← hB2, nmB_9]
  rw [hvv] at e12
  have hl9 := bl_le (v := vL S 0 B1 P y) (a := 1) (most := 9) (by omega) (by omega)
  have el2 : letB S y P B 2 = B 2 - bl (vL S 0 B1 P y) 1 9 := by rw [← hB1]; rfl
  have el9 : letB S y P B 9 = B 9 + v := by rw [← hv, hm1, ← hB1]; rfl
  have el8 : letB S y P B 8 = B 8 + 1 := rfl
  have lo : ∀ z, z ≠ 8 → z ≠ 9 → z ≠ 2 → letB S y P B z = B z := fun z a b d => by unfold letB; rw [if_neg a, if_neg b, if_neg d]
  generalize bl (vL S 0 B1 P y) 1 9 = less at *
  have v24 : m12.1 24 (6 * s + b) = nI (B 2) := by rw [x12'.2.1, co 2 (by omega), bo 2 (by omega)]
  refine ⟨wI m12 24 (6 * s + b) (nI (B 2 - less)), ?_, ?_, f12.w (by omega)⟩
  · have e12' : f12_boundLaw 0 1 9 m10 = some (nI less, m12) := e12
    have hm26 : m.1 26 (6 * s + b) + 1 = nI (B 8 + 1) := by rw [h4, nI_1]
    have hm27 : m6.1 27 (6 * s + b) + nI v = nI (B 9 + v) := by rw [x6.2.2.2.2.1, bo 9 (by omega), nI_add]
    simp only [f12_letGo, f12_letGo_81, lt, gd, six_m, i12, x12, if_true, hm26, ← e4, ec, Option.bind_some, hm27, ← e9, e10, e12', v24]
    by_cases q : B 2 ≤ less
    · rw [if_pos (nI_le q (by omega)), show B 2 - less = 0 by omega]; rfl
    · rw [if_neg (nI_ge (by omega) (by omega)), pk_sub (by omega)]
  · obtain ⟨y1, y2, y3, y5, y6, y7, y8, y9⟩ := x12'
    refine ⟨?_, ?_, ?_, ?_, ?_, ?_, ?_, fun k hk => ?_⟩
    · rw [lo 1 (by omega) (by omega) (by omega), wI_o (by omega), y1, co 1 (by omega), bo 1 (by omega)]
    · rw [wI_s, el2]
    · rw [lo 3 (by omega) (by omega) (by omega), wI_o (by omega), y3, co 3 (by omega), bo 3 (by omega)]
    · rw [el8, wI_o (by omega), y5, co 8 (by omega), b8]
    · rw [el9, wI_o (by omega), y6, c9]
    · rw [lo 6 (by omega) (by omega) (by omega), wI_o (by omega), wI_o (by omega), y7, co 6 (by omega), bo 6 (by omega)]
    · rw [lo 4 (by omega) (by omega) (by omega), wI_o (by omega), wI_o (by omega), y8, co 4 (by omega), bo 4 (by omega)]
    · rw [wI_o (by omega), y9 k hk]
theorem goes_eq {s b Y : Nat} {g : Option Nat} {B P : Bx} {m : Hp} (hs : s ≤ 1) (hb : b < 6) (wb : wfB Y B P) (h : bxM B P s b m) (h62 : m.1 0 62 = eI g) (hg : ∀ j, g = some j → j < 6) (hne : g ≠ some b) : f12_goes (nI s) (nI b) m = some (if goB B = true then 1 else 0) := by
  obtain ⟨w1, w2, w3, w4, w6, w8, w9, wp⟩ := wb
  obtain ⟨h1, h2, h3, h4, h5, h6, h7, h8⟩ := h
  have i12 := inb_t (show 6 * s + b < 12 by omega) (show 12 < 2 ^ 31 by omega)
  have x12 := ix_nI (show 6 * s + b < 2 ^ 31 by omega)
  have hn : ¬ nI b = eI g := by
    cases g with
    | none => exact m1_ne (by omega)
    | some j =>
      have := hg j rfl
      show ¬ nI b = nI j
      rw [nI_eq (by omega) (by omega)]
      intro e; exact hne (by rw [e])
  simp only [f12_goes, f12_goes_29, f12_goes_47, h62, hn, if_false, gd, six_m, i12, x12, if_true, h2]
  have k2 : (nI (B 2) ≤ (0 : Int32)) ↔ B 2 ≤ 0 := by rw [show (0 : Int32) = nI 0 from rfl]; exact nI_leI (by omega) (by omega)
  simp only [k2]
  unfold goB
  by_cases z : m.1 0 60 = 0
  · rw [if_pos z] at h6
    have k6 : (m.1 28 (6 * s + b) = 0) ↔ B 6 = 0 := by rw [h6, show (0 : Int32) = nI 0 from rfl]; exact nI_eq (by omega) (by omega)
    simp only [k6, z, if_true, decide_eq_true_eq]
    by_cases e : B 6 = 0
    · by_cases e2 : B 2 ≤ 0
      · rw [if_pos e, if_pos e2, if_neg (by omega)]
      · rw [if_pos e, if_neg e2, if_pos (by omega)]
    · rw [if_neg e, if_neg (by omega)]
  · rw [if_neg z] at h6
    have k6 : B 6 = 0 := by
      rw [show (0 : Int32) = nI 0 from rfl, nI_eq (by omega) (by omega)] at h6
      exact h6.symm
    simp only [k6, z, if_false, decide_eq_true_eq, ite_self, true_and]
    by_cases e2 : B 2 ≤ 0
    · rw [if_pos e2, if_neg (by omega)]
    · rw [if_neg e2, if_pos (by omega)]
theorem eI_ne {g : Option Nat} {b : Nat} (hb : b < 6) (hg : ∀ j, g = some j → j < 6) (hne : g ≠ some b) : ¬ nI b = eI g := by
  cases g with
  | none => exact m1_ne (by omega)
  | some j =>
    have := hg j rfl
    show ¬ nI b = nI j
    rw [nI_eq (by omega) (by omega)]
    intro e; exact hne (by rw [e])
theorem grow_M {S : Sp} {t s b n y Y : Nat} {g : Option Nat} {B P : Bx} {c m : Hp} (w : wfLaws S) (hC : lawC S t c) (hM : lawM S m) (hs : s ≤ 1) (hn : n ≤ 6) (hb : b < n) (wb : wfB Y B P) (h : bxM B P s b m) (hy : m.1 30 s = nI y) (h12 : m.1 0 12 = nI n) (h62 : m.1 0 62 = eI g) (hg : ∀ j, g = some j → j < 6) (hne : g ≠ some b) : ∃ m', f12_yearGoes_50_s (nI s) (nI b) m = some (.inl (nI (b + 1), m')) ∧ bxM (growB S y P B) P s b m' ∧ frY s b m m' := by
  have hn' := eI_ne (show b < 6 by omega) hg hne
  obtain ⟨m5, e5, n5, o5, j5, r5⟩ := layNames_ex wb hs (by omega) h hy
  have f5 := frY.rf (s := s) (b := b) (m := m) |>.n o5 j5 r5
  have x5 := h.o o5
  have L5 : lawM S m5 := hM.o (fun q k a d => f5.1 q k (by omega) (by omega))
  obtain ⟨m6, e6, s6⟩ := boundLaw_ex (t := t) (l := 1) (a := 1) (most := 9) w hC L5 (by omega) wb.2.2.2.1 (by omega) n5
  have f6 := f5.s s6
  have x6 := x5.st s6.1
  have hle := bl_le (v := vL S 1 B P y) (a := 1) (most := 9) (by omega) (by omega)
  have g3 : growB S y P B 3 = min 99 (B 3 + bl (vL S 1 B P y) 1 9) := rfl
  have go : ∀ z, z ≠ 3 → growB S y P B z = B z := fun z hz => if_neg hz
  generalize bl (vL S 1 B P y) 1 9 = v at *
  obtain ⟨w1, w2, w3, w4, w6, w8, w9, wp⟩ := wb
  have i12 := inb_t (show 6 * s + b < 12 by omega) (show 12 < 2 ^ 31 by omega)
  have x12 := ix_nI (show 6 * s + b < 2 ^ 31 by omega)
  obtain ⟨y1, y2, y3, y5, y6, y7, y8, y9⟩ := x6
  refine ⟨wI m6 25 (6 * s + b) (nI (min 99 (B 3 + v))), ?_, ?_, f6.w (by omega)⟩
  · have e6' : f12_boundLaw 1 1 9 m5 = some (nI v, m6) := e6
    simp only [f12_yearGoes_50_s, f12_yearGoes_130, f12_yearGoes_131, h12, nI_ge hb (show n < 2 ^ 31 by omega), if_false, h62, hn', e5, e6', Option.bind_some, gd, six_m, i12, x12, if_true, lt, y3, nI_add, nI_1]
    by_cases q : B 3 + v ≤ 99
    · rw [if_pos (by rw [show (99 : Int32) = nI 99 from rfl]; exact nI_le q (by omega)), show min 99 (B 3 + v) = B 3 + v by omega]
    · rw [if_neg (by rw [show (99 : Int32) = nI 99 from rfl]; exact nI_ge (by omega) (by omega)), show min 99 (B 3 + v) = 99 by omega]; rfl
  · refine ⟨?_, ?_, ?_, ?_, ?_, ?_, ?_, fun k hk => ?_⟩
    · rw [go 1 (by omega), wI_o (by omega)]; exact y1
    · rw [go 2 (by omega), wI_o (by omega)]; exact y2
    · rw [wI_s, g3]
    · rw [go 8 (by omega), wI_o (by omega)]; exact y5
    · rw [go 9 (by omega), wI_o (by omega)]; exact y6
    · rw [go 6 (by omega), wI_o (by omega), wI_o (by omega)]; exact y7
    · rw [go 4 (by omega), wI_o (by omega), wI_o (by omega)]; exact y8
    · rw [wI_o (by omega)]; exact y9 k hk
