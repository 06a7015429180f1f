/-! Years one behind another. -/
def nmS (dp : Nat) (nd dr : Bool) (num : Nat) : Nat → Nat
  | 0 => num
  | k + 1 => (dmpS dp nd dr (nmS dp nd dr num k)).2
def dsS (dp : Nat) (nd dr : Bool) (num k : Nat) : Bool := (dmpS dp nd dr (nmS dp nd dr num k)).1
theorem dmpS_lt {dp num : Nat} {nd dr : Bool} (h : num < 2 ^ 31) : (dmpS dp nd dr num).2 < 2 ^ 31 := by
  have := nxt_lt num
  unfold dmpS
  split
  · exact h
  · split
    · exact h
    · split
      · exact h
      · split
        · exact this
        · exact h
theorem nmS_lt {dp num : Nat} {nd dr : Bool} (h : num < 2 ^ 31) : ∀ k, nmS dp nd dr num k < 2 ^ 31
  | 0 => h
  | k + 1 => dmpS_lt (nmS_lt h k)
theorem dmp_as {dp num : Nat} {nd : Bool} (h : dp ≤ 100) : dmpS dp nd false num = (!nd && decide (50 ≤ dp), num) := by
  unfold dmpS
  cases nd with
  | true => rfl
  | false =>
    simp only [Bool.false_eq_true, if_false, Bool.not_false, Bool.true_and]
    by_cases q : dp = 0
    · subst q; rfl
    · rw [if_neg q]
      by_cases q2 : dp = 100
      · subst q2; rfl
      · rw [if_neg q2]
theorem nmS_as {dp num : Nat} {nd : Bool} (h : dp ≤ 100) : ∀ k, nmS dp nd false num k = num
  | 0 => rfl
  | k + 1 => by
    show (dmpS dp nd false (nmS dp nd false num k)).2 = num
    rw [nmS_as h k, dmp_as h]
theorem dsS_as {dp num : Nat} {nd : Bool} (h : dp ≤ 100) : dsS dp nd false num = fun _ => !nd && decide (50 ≤ dp) := by
  funext k
  unfold dsS
  rw [dmp_as h]
noncomputable def yrs (S : Sp) (y0 : Nat) (ds : Nat → Bool) (P B : Bx) : Nat → Bx
  | 0 => B
  | k + 1 => yrB S (y0 + k) (ds k) P (yrs S y0 ds P B k)
theorem wf_yrs {S : Sp} {y0 Y : Nat} {ds : Nat → Bool} {B P : Bx} (w : wfB Y B P) : ∀ k, wfB (Y + k) (yrs S y0 ds P B k) P
  | 0 => w
  | k + 1 => wf_yr (wf_yrs w k)
def cxM (S : Sp) (n dp : Nat) (nd dr : Bool) (g : Option Nat) (m : Hp) : Prop := lawM S m ∧ m.1 0 12 = nI n ∧ m.1 0 62 = eI g ∧ m.1 0 58 = bI dr ∧ m.1 0 59 = bI nd ∧ m.1 4 0 = nI dp
theorem cxM.z {S : Sp} {s n dp : Nat} {nd dr : Bool} {g : Option Nat} {m m' : Hp} (h : cxM S n dp nd dr g m) (f : frZ s n g m m') : cxM S n dp nd dr g m' := by
  obtain ⟨h1, h2, h3, h4, h5, h6⟩ := h
  exact ⟨h1.o (fun q k a b => f.o (by omega) (by omega) (by omega)), (f.o (by omega) (by omega) (by omega)).trans h2, (f.o (by omega) (by omega) (by omega)).trans h3, (f.o (by omega) (by omega) (by omega)).trans h4, (f.o (by omega) (by omega) (by omega)).trans h5, (f.o (by omega) (by omega) (by omega)).trans h6⟩
/-- the reference k years behind m -/
def YM (S : Sp) (s n y dp num : Nat) (nd dr : Bool) (g : Option Nat) (Bs Ps : Nat → Bx) (m : Hp) (k : Nat) (h : Hp) : Prop := (∀ b, b < n → g ≠ some b → bxM (yrs S y (dsS dp nd dr num) (Ps b) (Bs b) k) (Ps b) s b h) ∧ h.1 30 s = nI (y + k) ∧ h.1 31 s = m.1 31 s + nI (cnt (dsS dp nd dr num) k) ∧ h.2.1 0 57 = lN (nmS dp nd dr num k) ∧ frZ s n g m h
theorem YM.zero {S : Sp} {s n y dp num : Nat} {nd dr : Bool} {g : Option Nat} {Bs Ps : Nat → Bx} {m : Hp} (hb : ∀ b, b < n → g ≠ some b → bxM (Bs b) (Ps b) s b m) (hy : m.1 30 s = nI y) (h57 : m.2.1 0 57 = lN num) : YM S s n y dp num nd dr g Bs Ps m 0 m :=
  ⟨hb, hy, by rw [show nI (cnt (dsS dp nd dr num) 0) = 0 from rfl, Int32.add_zero], h57, frZ.rf⟩
theorem YM.step {S : Sp} {t s n y Y dp num k : Nat} {nd dr : Bool} {g : Option Nat} {Bs Ps : Nat → Bx} {c m h : Hp} (w : wfLaws S) (hC : lawC S t c) (cx : cxM S n dp nd dr g m) (hs : s ≤ 1) (hn : n ≤ 6) (hg : ∀ j, g = some j → j < 6) (hdp : dp ≤ 100) (hnum : num < 2 ^ 31) (hY : Y + k ≤ 12000) (wb : ∀ b, b < n → g ≠ some b → wfB Y (Bs b) (Ps b)) (i : YM S s n y dp num nd dr g Bs Ps m k h) : ∃ h', f12_yearGoes (nI s) h = some h' ∧ YM S s n y dp num nd dr g Bs Ps m (k + 1) h' := by
  obtain ⟨i1, i2, i3, i4, i5⟩ := i
  obtain ⟨c1, c2, c3, c4, c5, c6⟩ := cx.z i5
  obtain ⟨h', e, a1, a2, a3, a4, a5⟩ := yearM_ex w hC c1 hs hn hY c2 c3 hg c4 c5 c6 hdp i4 (nmS_lt hnum k) i2 (fun b hb hne => wf_yrs (wb b hb hne) k) i1
  refine ⟨h', e, a1, by rw [a2, Nat.add_assoc], ?_, a4, i5.tr a5⟩
  rw [a3, i3, Int32.add_assoc]
  congr 1
  show nI (cnt (dsS dp nd dr num) k) + bI (dsS dp nd dr num k) = nI (cnt (dsS dp nd dr num) k + (if dsS dp nd dr num k then 1 else 0))
  rw [← nI_add]
  congr 1
  cases dsS dp nd dr num k <;> rfl
theorem goMany_ex {S : Sp} {t n y Y dp num K : Nat} {nd dr : Bool} {g : Option Nat} {Bs Ps : Nat → Bx} {c m : Hp} (w : wfLaws S) (hC : lawC S t c) (cx : cxM S n dp nd dr g m) (hn : n ≤ 6) (hg : ∀ j, g = some j → j < 6) (hdp : dp ≤ 100) (hnum : num < 2 ^ 31) (hY : Y + K ≤ 12000) (wb : ∀ b, b < n → g ≠ some b → wfB Y (Bs b) (Ps b)) (hb : ∀ b, b < n → g ≠ some b → bxM (Bs b) (Ps b) 1 b m) (hy : m.1 30 1 = nI y) (h57 : m.2.1 0 57 = lN num) : ∃ m', f12_goMany (nI K) m = some m' ∧ YM S 1 n y dp num nd dr g Bs Ps m K m' := by
  unfold f12_goMany f12_goMany_2
  obtain ⟨⟨x, h⟩, e, e1, hx⟩ := lp_walk (f := fun z : Int32 × Hp => f12_goMany_2_s (nI K) z.1 z.2) (fun i z => z.1 = nI i ∧ YM S 1 n y dp num nd dr g Bs Ps m i z.2) K (0, m) ⟨rfl, YM.zero hb hy h57⟩ (fun i z hi hI => by
    obtain ⟨x, h⟩ := z
    obtain ⟨e1, hx⟩ := hI
    have e1 : x = nI i := e1
    subst e1
    obtain ⟨h', e', i'⟩ := YM.step w hC cx (by omega) hn hg hdp hnum (show Y + i ≤ 12000 by omega) wb hx
    refine ⟨(nI (i + 1), h'), ?_, rfl, i'⟩
    simp only [f12_goMany_2_s, nI_ge hi (show K < 2 ^ 31 by omega), if_false, show f12_yearGoes 1 h = some h' from e', Option.bind_some, nI_1])
  have e1 : x = nI K := e1
  subst e1
  refine ⟨h, ?_, hx⟩
  rw [e]
  refine lp_inr (o := some h) ?_
  simp only [f12_goMany_2_s, nI_le (Nat.le_refl K) (show K < 2 ^ 31 by omega), if_true, Option.map_some]
/-- the reference lays its boxes for a trial -/
theorem layTried_ex {m : Hp} (hz : ∀ b, b < 6 → bz (m.1 28 b) = true) : ∃ m', f12_layTried m = some m' ∧ frM m m' ∧ (∀ q k, ¬ (q = 0 ∧ 58 ≤ k ∧ k ≤ 62) → ¬ ((24 ≤ q ∧ q ≤ 29) ∧ 6 ≤ k) → ¬ ((q = 30 ∨ q = 31) ∧ k = 1) → m'.1 q k = m.1 q k) ∧ m'.2 = m.2 ∧ m'.1 0 58 = 0 ∧ m'.1 0 59 = 0 ∧ m'.1 0 60 = 0 ∧ m'.1 0 61 = 0 ∧ m'.1 0 62 = -1 ∧ m'.1 30 1 = m.1 30 0 ∧ m'.1 31 1 = m.1 31 0 ∧ ∀ q b, 24 ≤ q → q ≤ 29 → b < 6 → m'.1 q (6 + b) = m.1 q b := by
  unfold f12_layTried f12_layTried_2
  obtain ⟨⟨x, h⟩, e, e1, hx, he, hb⟩ := lp_walk (f := fun z : Int32 × Hp => f12_layTried_2_s z.1 z.2) (fun i z => z.1 = nI i ∧ (∀ q k, ¬ ((24 ≤ q ∧ q ≤ 29) ∧ 6 ≤ k) → z.2.1 q k = m.1 q k) ∧ z.2.2 = m.2 ∧ ∀ q b, 24 ≤ q → q ≤ 29 → b < i → z.2.1 q (6 + b) = m.1 q b) 6 (0, m) ⟨rfl, fun _ _ _ => rfl, rfl, fun q b _ _ h => by omega⟩ (fun i z hi hI => by
    obtain ⟨x, h⟩ := z
    obtain ⟨e1, hx, he, hb⟩ := hI
    have e1 : x = nI i := e1
    have hx : ∀ q k, ¬ ((24 ≤ q ∧ q ≤ 29) ∧ 6 ≤ k) → h.1 q k = m.1 q k := hx
    have hb : ∀ q b, 24 ≤ q → q ≤ 29 → b < i → h.1 q (6 + b) = m.1 q b := hb
    have he : h.2 = m.2 := he
    subst e1
    have i12 := inb_t (show i < 12 by omega) (show 12 < 2 ^ 31 by omega)
    have j12 := inb_t (show 6 + i < 12 by omega) (show 12 < 2 ^ 31 by omega)
    have xi := ix_nI (show i < 2 ^ 31 by omega)
    have xj := ix_nI (show 6 + i < 2 ^ 31 by omega)
    have a6 : (6 + nI i : Int32) = nI (6 + i) := by rw [lit, nI_add]
    have z28 : bz (m.1 28 i) = true := hz i hi
    have v : ∀ q, h.1 q i = m.1 q i := fun q => hx q i (by omega)
    refine ⟨(nI (i + 1), wI (wI (wI (wI (wI (wI h 24 (6 + i) (m.1 24 i)) 25 (6 + i) (m.1 25 i)) 26 (6 + i) (m.1 26 i)) 27 (6 + i) (m.1 27 i)) 28 (6 + i) (m.1 28 i)) 29 (6 + i) (m.1 29 i)), ?_, rfl, fun q k n => ?_, he, fun q b h1 h2 hbi => ?_⟩
    · have w25 : (wI h 24 (6 + i) (m.1 24 i)).1 25 i = m.1 25 i := by rw [wI_o (by omega)]; exact v 25
      have w26 : (wI (wI h 24 (6 + i) (m.1 24 i)) 25 (6 + i) (m.1 25 i)).1 26 i = m.1 26 i := by rw [wI_o (by omega), wI_o (by omega)]; exact v 26
      have w27 : (wI (wI (wI h 24 (6 + i) (m.1 24 i)) 25 (6 + i) (m.1 25 i)) 26 (6 + i) (m.1 26 i)).1 27 i = m.1 27 i := by rw [wI_o (by omega), wI_o (by omega), wI_o (by omega)]; exact v 27
      have w28 : (wI (wI (wI (wI h 24 (6 + i) (m.1 24 i)) 25 (6 + i) (m.1 25 i)) 26 (6 + i) (m.1 26 i)) 27 (6 + i) (m.1 27 i)).1 28 i = m.1 28 i := by rw [wI_o (by omega), wI_o (by omega), wI_o (by omega), wI_o (by omega)]; exact v 28
      have w29 : (wI (wI (wI (wI (wI h 24 (6 + i) (m.1 24 i)) 25 (6 + i) (m.1 25 i)) 26 (6 + i) (m.1 26 i)) 27 (6 + i) (m.1 27 i)) 28 (6 + i) (m.1 28 i)).1 29 i = m.1 29 i := by rw [wI_o (by omega), wI_o (by omega), wI_o (by omega), wI_o (by omega), wI_o (by omega)]; exact v 29
      simp only [f12_layTried_2_s, g6 hi, if_false, gd, a6, i12, j12, xi, xj, if_true, lt, v 24, w25, w26, w27, w28, w29, z28, nI_1]
    · show (wI (wI (wI (wI (wI (wI h 24 (6 + i) (m.1 24 i)) 25 (6 + i) (m.1 25 i)) 26 (6 + i) (m.1 26 i)) 27 (6 + i) (m.1 27 i)) 28 (6 + i) (m.1 28 i)) 29 (6 + i) (m.1 29 i)).1 q k = _
      rw [wI_o (by omega), wI_o (by omega), wI_o (by omega), wI_o (by omega), wI_o (by omega), wI_o (by omega)]
      exact hx q k n
    · show (wI (wI (wI (wI (wI (wI h 24 (6 + i) (m.1 24 i)) 25 (6 + i) (m.1 25 i)) 26 (6 + i) (m.1 26 i)) 27 (6 + i) (m.1 27 i)) 28 (6 + i) (m.1 28 i)) 29 (6 + i) (m.1 29 i)).1 q (6 + b) = _
      by_cases z : b = i
      · subst z
        have hq : q = 24 ∨ q = 25 ∨ q = 26 ∨ q = 27 ∨ q = 28 ∨ q = 29 := by omega
        rcases hq with rfl | rfl | rfl | rfl | rfl | rfl
        · rw [wI_o (by omega), wI_o (by omega), wI_o (by omega), wI_o (by omega), wI_o (by omega), wI_s]
        · rw [wI_o (by omega), wI_o (by omega), wI_o (by omega), wI_o (by omega), wI_s]
        · rw [wI_o (by omega), wI_o (by omega), wI_o (by omega), wI_s]
        · rw [wI_o (by omega), wI_o (by omega), wI_s]
        · rw [wI_o (by omega), wI_s]
        · rw [wI_s]
      · rw [wI_o (by omega), wI_o (by omega), wI_o (by omega), wI_o (by omega), wI_o (by omega), wI_o (by omega)]
        exact hb q b h1 h2 (by omega))
  have e1 : x = nI 6 := e1
  have hx : ∀ q k, ¬ ((24 ≤ q ∧ q ≤ 29) ∧ 6 ≤ k) → h.1 q k = m.1 q k := hx
  have hb : ∀ q b, 24 ≤ q → q ≤ 29 → b < 6 → h.1 q (6 + b) = m.1 q b := hb
  have he : h.2 = m.2 := he
  subst e1
  obtain ⟨m2, e2, f2, p58, p59, p60, p61, p62, pf, pj⟩ := plain_ex (wI (wI h 30 1 (h.1 30 0)) 31 1 (h.1 31 0))
  have o : ∀ q k, ¬ (q = 0 ∧ 58 ≤ k ∧ k ≤ 62) → ¬ ((q = 30 ∨ q = 31) ∧ k = 1) → m2.1 q k = h.1 q k := fun q k a b => by rw [pf q k a, wI_o (by omega), wI_o (by omega)]
  have c0 : inb 0 2 = true ∧ inb 1 2 = true ∧ ix 0 = 0 ∧ ix 1 = 1 := by decide
  refine ⟨m2, ?_, ?_, fun q k a b d => (o q k a d).trans (hx q k b), pj.trans he, p58, p59, p60, p61, p62, ?_, ?_, fun q b h1 h2 h3 => (o q _ (by omega) (by omega)).trans (hb q b h1 h2 h3)⟩
  · rw [e]
    refine lp_inr (o := some m2) ?_
    have z31 : (wI h 30 1 (h.1 30 0)).1 31 0 = h.1 31 0 := wI_o (by omega)
    simp only [f12_layTried_2_s, f12_layTried_104, l6, if_true, gd, c0, lt, z31, e2, Option.bind_some]
  · refine ⟨fun q k n => ?_, by rw [pj]; show h.2.1 0 57 = _; rw [he], by rw [pj]; show h.2.1 0 74 = _; rw [he]⟩
    unfold scrM at n
    exact (o q k (by omega) (by omega)).trans (hx q k (by omega))
  · rw [pf _ _ (by omega), wI_o (by omega), wI_s]; exact hx _ _ (by omega)
  · rw [pf _ _ (by omega), wI_s]; exact hx _ _ (by omega)
/-- box i by itself -/
def bxS (S : Sp) (i : Nat) : Bx := fun x => S x i
def psS (S : Sp) (i : Nat) : Bx := fun k => S 7 (8 * i + k)
theorem wf_bx {S : Sp} {i : Nat} (w : wfNow S) (hi : i < S 0 0) : wfB (S 0 4) (bxS S i) (psS S i) := by
  obtain ⟨x1, x2, x3, x4, x5, x6, x7, x8, x9⟩ := w.2.2.2.2 i hi
  exact ⟨x1, x2, x3, x4.1, x6, x7, x8, x9⟩
theorem bxC_of {S : Sp} {i p : Nat} {c : Hp} (h : boxC S i p c) : bxC (bxS S i) (psS S i) p c := by
  obtain ⟨b1, b2, b3, b4, b5, b6, b7, b8, b9, b10⟩ := h
  exact ⟨b1, b2, b4, b5, b6, b8, b9, b10⟩
theorem bxM_now {S : Sp} {i : Nat} {m : Hp} (h : boxM S i m) (h60 : m.1 0 60 = 0) (h61 : m.1 0 61 = 0) : bxM (bxS S i) (psS S i) 0 i m := by
  obtain ⟨b1, b2, b3, b4, b5, b6, b7, b8, b9⟩ := h
  refine ⟨b1, ?_, ?_, ?_, ?_, ?_, ?_, b9⟩
  · rw [show 6 * 0 + i = i by omega]; exact b3
  · rw [show 6 * 0 + i = i by omega]; exact b4
  · rw [show 6 * 0 + i = i by omega]; exact b5
  · rw [show 6 * 0 + i = i by omega]; exact b6
  · rw [if_pos h60, show 6 * 0 + i = i by omega]; exact b8
  · rw [if_pos h61, show 6 * 0 + i = i by omega]; exact b7
