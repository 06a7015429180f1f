/-! One box, one year: the reference's. -/
def bxM (B P : Bx) (s b : Nat) (m : Hp) : Prop := m.1 7 b = nI (B 1) ∧ m.1 24 (6 * s + b) = nI (B 2) ∧ m.1 25 (6 * s + b) = nI (B 3) ∧ m.1 26 (6 * s + b) = nI (B 8) ∧ m.1 27 (6 * s + b) = nI (B 9) ∧ (if m.1 0 60 = 0 then m.1 28 (6 * s + b) else 0) = nI (B 6) ∧ (if m.1 0 61 = 0 then m.1 29 (6 * s + b) else 0) = nI (B 4) ∧ ∀ k, k < 8 → m.1 8 (8 * b + k) = nI (P k)
theorem six_m {s b : Nat} : (6 * nI s + nI b : Int32) = nI (6 * s + b) := by rw [lit, pk_mul, nI_add]
theorem eight_m {b k : Nat} : (8 * nI b + nI k : Int32) = nI (8 * b + k) := by rw [lit, pk_mul, nI_add]
theorem pinsOf_eq {B P : Bx} {s b Y : Nat} {m : Hp} (w : wfB Y B P) (hb : b < 6) (h : bxM B P s b m) : f12_pinsOf (nI b) m = some (nI (pcN P)) := by
  obtain ⟨w1, w2, w3, w4, w6, w8, w9, wp⟩ := w
  obtain ⟨h1, h2, h3, h4, h5, h6, h7, h8⟩ := h
  unfold f12_pinsOf f12_pinsOf_4 pcN
  refine lp_for1 (f := fun z : Int32 × Int32 => f12_pinsOf_4_s (nI b) z.1 z.2 m) (fun i => (nI (cnt (fun k => decide (0 < P k)) i), nI i)) 8 (fun i hi => ?_) ?_
  · have := wp i hi
    simp only [f12_pinsOf_4_s, f12_pinsOf_30, lt, g8 hi, if_false, gd, eight_m, inb_t (show 8 * b + i < 96 by omega) (show 96 < 2 ^ 31 by omega), if_true, ix_nI (show 8 * b + i < 2 ^ 31 by omega), h8 i hi, nI_1, cnt]
    by_cases q : 0 < P i
    · have q2 : ¬ nI (P i) ≤ 0 := nI_nle q (by omega)
      simp only [q, q2, decide_true, if_true, if_false, nI_1]
    · have q2 : nI (P i) ≤ 0 := by rw [show P i = 0 by omega]; decide
      simp only [q, q2, decide_false, if_true, Bool.false_eq_true, if_false, Nat.add_zero, Int32.add_zero]
  · simp only [f12_pinsOf_4_s, l8, if_true]
theorem lacks_eq {B P : Bx} {s b : Nat} {m : Hp} (hs : s ≤ 1) (hb : b < 6) (h : bxM B P s b m) : f12_lacksOf (nI s) (nI b) m = some (nI (B 4)) := by
  obtain ⟨h1, h2, h3, h4, h5, h6, h7, h8⟩ := h
  simp only [f12_lacksOf, six_m, gd, inb_t (show 6 * s + b < 12 by omega) (show 12 < 2 ^ 31 by omega), if_true, ix_nI (show 6 * s + b < 2 ^ 31 by omega)]
  rw [← h7]
  split <;> rfl
theorem heardM_eq {B P : Bx} {s b k Y : Nat} {m : Hp} (w : wfB Y B P) (hs : s ≤ 1) (hb : b < 6) (hk : k < 8) (h : bxM B P s b m) : f12_heardIn (nI s) (nI b) (nI k) m = some (nI (hN (P k) (B 3) (B 4))) := by
  have hl := lacks_eq hs hb h
  obtain ⟨w1, w2, w3, w4, w6, w8, w9, wp⟩ := w
  obtain ⟨h1, h2, h3, h4, h5, h6, h7, h8⟩ := h
  simp only [f12_heardIn, six_m, eight_m, gd, inb_t (show 6 * s + b < 12 by omega) (show 12 < 2 ^ 31 by omega), inb_t (show 8 * b + k < 96 by omega) (show 96 < 2 ^ 31 by omega), if_true, ix_nI (show 6 * s + b < 2 ^ 31 by omega), ix_nI (show 8 * b + k < 2 ^ 31 by omega), hl, Option.bind_some, heardBy_eq, h8 k hk, h3, hrd_nI (wp k hk) w3 w4]
theorem heardMany_eq {B P : Bx} {s b Y : Nat} {m : Hp} (w : wfB Y B P) (hs : s ≤ 1) (hb : b < 6) (h : bxM B P s b m) : f12_heardMany (nI s) (nI b) m = some (nI (hmB B P)) := by
  unfold f12_heardMany f12_heardMany_5 hmB
  refine lp_for1 (f := fun z : Int32 × Int32 => f12_heardMany_5_s (nI s) (nI b) z.1 z.2 m) (fun i => (nI (cnt (fun k => decide (0 < hN (P k) (B 3) (B 4))) i), nI i)) 8 (fun i hi => ?_) ?_
  · have hb9 := hN_le (pin := P i) (fl := B 3) (ms := B 4)
    simp only [f12_heardMany_5_s, f12_heardMany_29, lt, g8 hi, if_false, heardM_eq w hs hb hi h, Option.bind_some, nI_1, cnt]
    by_cases q : 0 < hN (P i) (B 3) (B 4)
    · have q2 : ¬ nI (hN (P i) (B 3) (B 4)) ≤ 0 := nI_nle q (by omega)
      simp only [q, q2, decide_true, if_true, if_false, nI_1]
    · have q2 : nI (hN (P i) (B 3) (B 4)) ≤ 0 := by rw [show hN (P i) (B 3) (B 4) = 0 by omega]; decide
      simp only [q, q2, decide_false, if_true, Bool.false_eq_true, if_false, Nat.add_zero, Int32.add_zero]
  · simp only [f12_heardMany_5_s, l8, if_true]
theorem bxM.o {B P : Bx} {s b : Nat} {m m' : Hp} (h : bxM B P s b m) (e : m'.1 = m.1) : bxM B P s b m' := by
  unfold bxM at *
  rw [e]; exact h
theorem pinsOf_o {x : Int32} {m m' : Hp} (e : m'.1 = m.1) : f12_pinsOf x m' = f12_pinsOf x m := by
  unfold f12_pinsOf f12_pinsOf_4 f12_pinsOf_4_s
  rw [e]; rfl
theorem lacks_o {x y : Int32} {m m' : Hp} (e : m'.1 = m.1) : f12_lacksOf x y m' = f12_lacksOf x y m := by
  unfold f12_lacksOf
  rw [e]
theorem layNames_ex {B P : Bx} {s b y Y : Nat} {m : Hp} (w : wfB Y B P) (hs : s ≤ 1) (hb : b < 6) (h : bxM B P s b m) (hy : m.1 30 s = nI y) : ∃ m', f12_layNames (nI s) (nI b) m = some m' ∧ (∀ k, k < 7 → m'.2.1 22 k = nmB B (pcN P) y k) ∧ m'.1 = m.1 ∧ (∀ q, q ≠ 22 → m'.2.1 q = m.2.1 q) ∧ m'.2.2 = m.2.2 := by
  have hl := lacks_eq hs hb h
  have hpn := pinsOf_eq w hb h
  obtain ⟨w1, w2, w3, w4, w6, w8, w9, wp⟩ := w
  obtain ⟨h1, h2, h3, h4, h5, h6, h7, h8⟩ := h
  have i12 := inb_t (show 6 * s + b < 12 by omega) (show 12 < 2 ^ 31 by omega)
  have x12 := ix_nI (show 6 * s + b < 2 ^ 31 by omega)
  have ib := inb_t (show b < 12 by omega) (show 12 < 2 ^ 31 by omega)
  have xb := ix_nI (show b < 2 ^ 31 by omega)
  have is2 := inb_t (show s < 2 by omega) (show 2 < 2 ^ 31 by omega)
  have xs := ix_nI (show s < 2 ^ 31 by omega)
  have c0 : inb 0 7 = true ∧ inb 1 7 = true ∧ inb 2 7 = true ∧ inb 3 7 = true ∧ inb 4 7 = true ∧ inb 5 7 = true ∧ inb 6 7 = true := by decide
  have d0 : ix 0 = 0 ∧ ix 1 = 1 ∧ ix 2 = 2 ∧ ix 3 = 3 ∧ ix 4 = 4 ∧ ix 5 = 5 ∧ ix 6 = 6 := by decide
  have hlw : ∀ m' : Hp, m'.1 = m.1 → f12_lacksOf (nI s) (nI b) m' = some (nI (B 4)) := fun m' e => (lacks_o e).trans hl
  have hpw : ∀ m' : Hp, m'.1 = m.1 → f12_pinsOf (nI b) m' = some (nI (pcN P)) := fun m' e => (pinsOf_o e).trans hpn
  refine ⟨wJ (wJ (wJ (wJ (wJ (wJ (wJ m 22 0 (nI (B 2)).toInt64) 22 1 (nI (B 1)).toInt64) 22 2 (nI (pcN P)).toInt64) 22 3 (nI (B 3)).toInt64) 22 4 (nI (popN (B 4))).toInt64) 22 5 (nI (B 8)).toInt64) 22 6 (nI y).toInt64, ?_, ?_, rfl, fun q hq => ?_, rfl⟩
  · simp only [f12_layNames, six_m, gd, i12, x12, ib, xb, is2, xs, c0, d0, if_true, lt, wJ_1, h1, h2, h3, h4, hy, hpw _ rfl, hlw _ rfl, Option.bind_some, manyOf_eq w4]
    rw [hpw _ (by simp only [wJ_1])]
    simp only [Option.bind_some, wJ_1, h3, h4, hy]
    rw [hlw _ (by simp only [wJ_1])]
    simp only [Option.bind_some, wJ_1, h4, hy, manyOf_eq w4]
  · intro k hk
    have hc : k = 0 ∨ k = 1 ∨ k = 2 ∨ k = 3 ∨ k = 4 ∨ k = 5 ∨ k = 6 := by omega
    rcases hc with rfl | rfl | rfl | rfl | rfl | rfl | rfl
    · rw [wJ_o (by omega), wJ_o (by omega), wJ_o (by omega), wJ_o (by omega), wJ_o (by omega), wJ_o (by omega), wJ_s]; rfl
    · rw [wJ_o (by omega), wJ_o (by omega), wJ_o (by omega), wJ_o (by omega), wJ_o (by omega), wJ_s]; rfl
    · rw [wJ_o (by omega), wJ_o (by omega), wJ_o (by omega), wJ_o (by omega), wJ_s]; rfl
    · rw [wJ_o (by omega), wJ_o (by omega), wJ_o (by omega), wJ_s]; rfl
    · rw [wJ_o (by omega), wJ_o (by omega), wJ_s]; rfl
    · rw [wJ_o (by omega), wJ_s]; rfl
    · rw [wJ_s]; rfl
  · funext j
    rw [wJ_o (by omega), wJ_o (by omega), wJ_o (by omega), wJ_o (by omega), wJ_o (by omega), wJ_o (by omega), wJ_o (by omega)]
/-- a box laid into the class's cell 51 -/
def layB (B P : Bx) (c : Hp) : Hp := (fun q k => if q = 51 then nI (if k = 2 then B 1 else if k = 3 then pcN P else if k = 5 then B 2 else if k = 6 then B 3 else if k = 7 then B 8 else if k = 9 then B 4 else B 6) else if q = 52 then nI (P k) else c.1 q k, c.2)
theorem layB_x (B P : Bx) (c : Hp) : bxC B P 51 (layB B P c) := ⟨rfl, rfl, rfl, rfl, rfl, rfl, rfl, fun _ _ => rfl⟩
theorem layB_l {S : Sp} {t : Nat} {B P : Bx} {c : Hp} (h : lawC S t c) : lawC S t (layB B P c) := by
  obtain ⟨ht, h1, h2⟩ := h
  have e : ∀ q k, 55 ≤ q → (layB B P c).1 q k = c.1 q k := fun q k hq => by
    show (if q = 51 then _ else if q = 52 then _ else c.1 q k) = _
    rw [if_neg (by omega), if_neg (by omega)]
  exact ⟨ht, fun i hi => ⟨(e _ _ (by omega)).trans (h1 i hi).1, (e _ _ (by omega)).trans (h1 i hi).2⟩, fun l hl => ⟨(e _ _ (by omega)).trans (h2 l hl).1, (e _ _ (by omega)).trans (h2 l hl).2⟩⟩
theorem boundLaw_ex {S : Sp} {t l y a most : Nat} {B P : Bx} {c m : Hp} (w : wfLaws S) (hC : lawC S t c) (hM : lawM S m) (hl : l < 3) (h4 : B 4 < 1024) (hm : most < 2 ^ 31) (hn : ∀ k, k < 7 → m.2.1 22 k = nmB B (pcN P) y k) : ∃ m', f12_boundLaw (nI l) (nI a) (nI most) m = some (nI (bl (vL S l B P y) a most), m') ∧ sM m m' := by
  have i6 := inb_t (show l < 6 by omega) (show 6 < 2 ^ 31 by omega)
  have xl := ix_nI (show l < 2 ^ 31 by omega)
  have h14 := (hM.2 l hl).1
  have hE := envC_of (y := y) h4 (layB_x B P c)
  have hL := layB_l (B := B) (P := P) hC
  by_cases ht : S 42 l < S 43 l
  · obtain ⟨r, c', r', m', e1, e2, e3, e4, e5⟩ := law_eval w hL hM hl hE hn (fun j _ => nmB_bnd _ _ _ j) ht
    have ev : vL S l B P y = r := evL_of w hM hl (fun j _ => nmB_bnd _ _ _ j) ⟨t, 51, nI y, _, c', hL, hE, e1⟩
    rw [if_pos ht] at h14
    simp only [f12_boundLaw, gd, i6, if_true, xl, h14, one_ne, if_false, e2, Option.bind_some, lg_cmp_ge, lg_cmp_le, nI_l hm]
    refine ⟨m', ?_, e4⟩
    rcases e5 with ⟨z1, z2, z3⟩ | ⟨z1, z2⟩
    · rw [if_pos z1, z2, ev]
      unfold bl hld
      rw [if_neg (bnd_err z3)]
      by_cases q : r < 0
      · rw [if_neg (by rw [Int64.not_le]; exact q), if_pos q]; rfl
      · rw [if_pos (Int64.not_lt.mp q), if_neg q]
        obtain ⟨k, hk, rfl⟩ := pk_lOf q
        by_cases q2 : lN most < lN k
        · rw [if_neg (by rw [Int64.not_le]; exact q2), if_pos q2]
        · rw [if_pos (Int64.not_lt.mp q2), if_neg q2, pk_lT hk, lN_i]; rfl
    · rw [if_neg (by rw [z1]; decide), ev, z2]
      unfold bl
      rw [if_pos rfl]
  · have e1 := law_no (p := 51) (y := nI y) w hL hl ht
    have ev : vL S l B P y = -9223372036854775808 := evL_of w hM hl (fun j _ => nmB_bnd _ _ _ j) ⟨t, 51, nI y, _, _, hL, hE, e1⟩
    rw [if_neg ht] at h14
    refine ⟨m, ?_, sM.rf⟩
    simp only [f12_boundLaw, gd, i6, if_true, xl, h14, ev]
    unfold bl
    rw [if_pos rfl]
/-- what a year does to one box of the reference's part s -/
def frY (s b : Nat) (m m' : Hp) : Prop := (∀ q k, ¬ (q = 0 ∧ k = 48) → ¬ ((24 ≤ q ∧ q ≤ 27) ∧ k = 6 * s + b) → m'.1 q k = m.1 q k) ∧ (∀ q, q ≠ 22 → q ≠ 23 → m'.2.1 q = m.2.1 q) ∧ m'.2.2 = m.2.2
theorem lawM.o {S : Sp} {m m' : Hp} (h : lawM S m) (f : ∀ q k, 14 ≤ q → q ≤ 19 → m'.1 q k = m.1 q k) : lawM S m' := by
  obtain ⟨h1, h2⟩ := h
  refine ⟨fun i hi => ?_, fun l hl => ?_⟩
  · obtain ⟨a, b, c⟩ := h1 i hi
    exact ⟨(f _ _ (by omega) (by omega)).trans a, (f _ _ (by omega) (by omega)).trans b, fun z => (f _ _ (by omega) (by omega)).trans (c z)⟩
  · obtain ⟨a, b⟩ := h2 l hl
    exact ⟨(f _ _ (by omega) (by omega)).trans a, fun z => ⟨(f _ _ (by omega) (by omega)).trans (b z).1, (f _ _ (by omega) (by omega)).trans (b z).2⟩⟩
theorem bxM.st {B P : Bx} {s b : Nat} {m m' : Hp} (h : bxM B P s b m) (f : ∀ q k, ¬ (q = 0 ∧ k = 48) → m'.1 q k = m.1 q k) : bxM B P s b m' := by
  obtain ⟨h1, h2, h3, h4, h5, h6, h7, h8⟩ := h
  refine ⟨?_, ?_, ?_, ?_, ?_, ?_, ?_, fun k hk => ?_⟩
  · rw [f _ _ (by omega)]; exact h1
  · rw [f _ _ (by omega)]; exact h2
  · rw [f _ _ (by omega)]; exact h3
  · rw [f _ _ (by omega)]; exact h4
  · rw [f _ _ (by omega)]; exact h5
  · rw [f _ _ (by omega), f _ _ (by omega)]; exact h6
  · rw [f _ _ (by omega), f _ _ (by omega)]; exact h7
  · rw [f _ _ (by omega)]; exact h8 k hk
