/-! A year of all the reference's boxes. -/
theorem lp_walk {σ ρ : Type} {f : σ → Option (σ ⊕ ρ)} (I : Nat → σ → Prop) (n : Nat) (s0 : σ) (i0 : I 0 s0) (hs : ∀ i s, i < n → I i s → ∃ s', f s = some (.inl s') ∧ I (i + 1) s') : ∃ s', lp f s0 = lp f s' ∧ I n s' := by
  have key : ∀ i, i ≤ n → ∃ s', lp f s0 = lp f s' ∧ I i s' := by
    intro i
    induction i with
    | zero => intro _; exact ⟨s0, rfl, i0⟩
    | succ i ih =>
      intro hi
      obtain ⟨s', e, h⟩ := ih (by omega)
      obtain ⟨s2, e2, h2⟩ := hs i s' (by omega) h
      exact ⟨s2, e.trans (lp_inl e2), h2⟩
  exact key n (Nat.le_refl n)
def frA (s n : Nat) (g : Option Nat) (m m' : Hp) : Prop := (∀ q k, ¬ (q = 0 ∧ k = 48) → (24 ≤ q → q ≤ 27 → ∀ b, b < n → g ≠ some b → k ≠ 6 * s + b) → m'.1 q k = m.1 q k) ∧ (∀ q, q ≠ 22 → q ≠ 23 → m'.2.1 q = m.2.1 q) ∧ m'.2.2 = m.2.2
theorem frA.rf {s n : Nat} {g : Option Nat} {m : Hp} : frA s n g m m := ⟨fun _ _ _ _ => rfl, fun _ _ _ => rfl, rfl⟩
theorem frA.y {s n b : Nat} {g : Option Nat} {m m' m'' : Hp} (h : frA s n g m m') (f : frY s b m' m'') (hb : b < n) (hg : g ≠ some b) : frA s n g m m'' := by
  refine ⟨fun q k a d => ?_, fun q a d => (f.2.1 q a d).trans (h.2.1 q a d), f.2.2.trans h.2.2⟩
  rw [f.1 q k a (fun z => d z.1.1 z.1.2 b hb hg z.2)]
  exact h.1 q k a d
theorem frA.tr {s n : Nat} {g : Option Nat} {m m' m'' : Hp} (h : frA s n g m m') (f : frA s n g m' m'') : frA s n g m m'' := ⟨fun q k a d => (f.1 q k a d).trans (h.1 q k a d), fun q a d => (f.2.1 q a d).trans (h.2.1 q a d), f.2.2.trans h.2.2⟩
theorem frA.o {s n q k : Nat} {g : Option Nat} {m m' : Hp} (h : frA s n g m m') (a : ¬ (q = 0 ∧ k = 48)) (b : ¬ (24 ≤ q ∧ q ≤ 27)) : m'.1 q k = m.1 q k := h.1 q k a (fun x y => absurd ⟨x, y⟩ b)
theorem bxM.y {B P : Bx} {s b b' : Nat} {m m' : Hp} (h : bxM B P s b' m) (f : frY s b m m') (hne : b' ≠ b) : bxM B P s b' m' := by
  obtain ⟨h1, h2, h3, h4, h5, h6, h7, h8⟩ := h
  refine ⟨?_, ?_, ?_, ?_, ?_, ?_, ?_, fun k hk => ?_⟩
  · rw [f.1 _ _ (by omega) (by omega)]; exact h1
  · rw [f.1 _ _ (by omega) (by omega)]; exact h2
  · rw [f.1 _ _ (by omega) (by omega)]; exact h3
  · rw [f.1 _ _ (by omega) (by omega)]; exact h4
  · rw [f.1 _ _ (by omega) (by omega)]; exact h5
  · rw [f.1 _ _ (by omega) (by omega), f.1 _ _ (by omega) (by omega)]; exact h6
  · rw [f.1 _ _ (by omega) (by omega), f.1 _ _ (by omega) (by omega)]; exact h7
  · rw [f.1 _ _ (by omega) (by omega)]; exact h8 k hk
noncomputable def lgB (S : Sp) (y : Nat) (P B : Bx) : Bx := if goB B then letB S y P B else B
theorem wf_lg {S : Sp} {y Y : Nat} {B P : Bx} (w : wfB Y B P) : wfB (Y + 1) (lgB S y P B) P := by
  unfold lgB
  split
  · exact wf_let w
  · exact w.mono (by omega)
theorem year_1 {S : Sp} {t s n y Y : Nat} {g : Option Nat} {Bs Ps : Nat → Bx} {c m : Hp} (w : wfLaws S) (hC : lawC S t c) (hM : lawM S m) (hs : s ≤ 1) (hn : n ≤ 6) (hY : Y ≤ 12000) (h12 : m.1 0 12 = nI n) (h62 : m.1 0 62 = eI g) (hg : ∀ j, g = some j → j < 6) (hy : m.1 30 s = nI y) (wb : ∀ b, b < n → g ≠ some b → wfB Y (Bs b) (Ps b)) (hb : ∀ b, b < n → g ≠ some b → bxM (Bs b) (Ps b) s b m) : ∃ m1, f12_yearGoes (nI s) m = f12_yearGoes_31 (nI s) m1 ∧ (∀ b, b < n → g ≠ some b → bxM (lgB S y (Ps b) (Bs b)) (Ps b) s b m1) ∧ frA s n g m m1 := by
  unfold f12_yearGoes f12_yearGoes_2
  obtain ⟨⟨x, m1⟩, e, e1, hx, fx⟩ := lp_walk (f := fun z : Int32 × Hp => f12_yearGoes_2_s (nI s) z.1 z.2) (fun i z => z.1 = nI i ∧ (∀ b, b < n → g ≠ some b → bxM (if b < i then lgB S y (Ps b) (Bs b) else Bs b) (Ps b) s b z.2) ∧ frA s n g m z.2) n (0, m) ⟨rfl, fun b hbn hne => by rw [if_neg (by omega)]; exact hb b hbn hne, frA.rf⟩ (fun i z hi hI => by
    obtain ⟨x, h⟩ := z
    obtain ⟨e1, hx, fx⟩ := hI
    have e1 : x = nI i := e1
    have hx : ∀ b, b < n → g ≠ some b → bxM (if b < i then lgB S y (Ps b) (Bs b) else Bs b) (Ps b) s b h := hx
    have fx : frA s n g m h := fx
    subst e1
    have g12 : h.1 0 12 = nI n := (fx.o (by omega) (by omega)).trans h12
    have g62 : h.1 0 62 = eI g := (fx.o (by omega) (by omega)).trans h62
    have g30 : h.1 30 s = nI y := (fx.o (by omega) (by omega)).trans hy
    have gM : lawM S h := hM.o (fun q k a d => fx.o (by omega) (by omega))
    by_cases q : g = some i
    · have eg : f12_goes (nI s) (nI i) h = some 0 := by simp only [f12_goes, g62, q, eI, if_true, f12_goes_47]
      refine ⟨(nI (i + 1), h), ?_, rfl, fun b hbn hne => ?_, fx⟩
      · simp only [f12_yearGoes_2_s, f12_yearGoes_25, g12, nI_ge hi (show n < 2 ^ 31 by omega), if_false, eg, Option.bind_some, if_true, nI_1]
      · have hbi : b ≠ i := fun z => hne (by rw [z]; exact q)
        have := hx b hbn hne
        by_cases z : b < i
        · rw [if_pos z] at this; rw [if_pos (by omega)]; exact this
        · rw [if_neg z] at this; rw [if_neg (by omega)]; exact this
    · have bi := hx i hi q
      rw [if_neg (Nat.lt_irrefl i)] at bi
      have eg := goes_eq hs (by omega) (wb i hi q) bi g62 hg q
      by_cases z : goB (Bs i) = true
      · rw [if_pos z] at eg
        obtain ⟨h', e', b', f'⟩ := letGo_M w hC gM hs (by omega) hY (wb i hi q) bi g30
        refine ⟨(nI (i + 1), h'), ?_, rfl, fun b hbn hne => ?_, fx.y f' hi q⟩
        · simp only [f12_yearGoes_2_s, f12_yearGoes_25, g12, nI_ge hi (show n < 2 ^ 31 by omega), if_false, eg, Option.bind_some, one_ne, e', nI_1]
        · by_cases zz : b = i
          · subst zz
            rw [if_pos (by omega)]; unfold lgB; rw [if_pos z]; exact b'
          · have := (hx b hbn hne).y f' zz
            by_cases z2 : b < i
            · rw [if_pos z2] at this; rw [if_pos (by omega)]; exact this
            · rw [if_neg z2] at this; rw [if_neg (by omega)]; exact this
      · rw [if_neg z] at eg
        refine ⟨(nI (i + 1), h), ?_, rfl, fun b hbn hne => ?_, fx⟩
        · simp only [f12_yearGoes_2_s, f12_yearGoes_25, g12, nI_ge hi (show n < 2 ^ 31 by omega), if_false, eg, Option.bind_some, if_true, nI_1]
        · by_cases zz : b = i
          · subst zz
            rw [if_pos (by omega)]; unfold lgB; rw [if_neg z]; exact bi
          · have := hx b hbn hne
            by_cases z2 : b < i
            · rw [if_pos z2] at this; rw [if_pos (by omega)]; exact this
            · rw [if_neg z2] at this; rw [if_neg (by omega)]; exact this)
  have e1 : x = nI n := e1
  have hx : ∀ b, b < n → g ≠ some b → bxM (if b < n then lgB S y (Ps b) (Bs b) else Bs b) (Ps b) s b m1 := hx
  have fx : frA s n g m m1 := fx
  subst e1
  have g12 : m1.1 0 12 = nI n := (fx.o (by omega) (by omega)).trans h12
  refine ⟨m1, ?_, fun b hbn hne => by have := hx b hbn hne; rw [if_pos hbn] at this; exact this, fx⟩
  rw [e]
  refine lp_inr ?_
  simp only [f12_yearGoes_2_s, g12, nI_le (Nat.le_refl n) (show n < 2 ^ 31 by omega), if_true]
theorem year_2 {S : Sp} {t s n y Y : Nat} {g : Option Nat} {Bs Ps : Nat → Bx} {c m : Hp} (w : wfLaws S) (hC : lawC S t c) (hM : lawM S m) (hs : s ≤ 1) (hn : n ≤ 6) (h12 : m.1 0 12 = nI n) (h62 : m.1 0 62 = eI g) (hg : ∀ j, g = some j → j < 6) (hy : m.1 30 s = nI y) (wb : ∀ b, b < n → g ≠ some b → wfB Y (Bs b) (Ps b)) (hb : ∀ b, b < n → g ≠ some b → bxM (Bs b) (Ps b) s b m) : ∃ m1, f12_yearGoes_50 (nI s) 0 m = f12_yearGoes_137 (nI s) m1 ∧ (∀ b, b < n → g ≠ some b → bxM (growB S y (Ps b) (Bs b)) (Ps b) s b m1) ∧ frA s n g m m1 := by
  unfold f12_yearGoes_50
  obtain ⟨⟨x, m1⟩, e, e1, hx, fx⟩ := lp_walk (f := fun z : Int32 × Hp => f12_yearGoes_50_s (nI s) z.1 z.2) (fun i z => z.1 = nI i ∧ (∀ b, b < n → g ≠ some b → bxM (if b < i then growB S y (Ps b) (Bs b) else Bs b) (Ps b) s b z.2) ∧ frA s n g m z.2) n (0, m) ⟨rfl, fun b hbn hne => by rw [if_neg (by omega)]; exact hb b hbn hne, frA.rf⟩ (fun i z hi hI => by
    obtain ⟨x, h⟩ := z
    obtain ⟨e1, hx, fx⟩ := hI
    have e1 : x = nI i := e1
    have hx : ∀ b, b < n → g ≠ some b → bxM (if b < i then growB S y (Ps b) (Bs b) else Bs b) (Ps b) s b h := hx
    have fx : frA s n g m h := fx
    subst e1
    have g12 : h.1 0 12 = nI n := (fx.o (by omega) (by omega)).trans h12
    have g62 : h.1 0 62 = eI g := (fx.o (by omega) (by omega)).trans h62
    have g30 : h.1 30 s = nI y := (fx.o (by omega) (by omega)).trans hy
    have gM : lawM S h := hM.o (fun q k a d => fx.o (by omega) (by omega))
    by_cases q : g = some i
    · refine ⟨(nI (i + 1), h), ?_, rfl, fun b hbn hne => ?_, fx⟩
      · simp only [f12_yearGoes_50_s, f12_yearGoes_131, g12, nI_ge hi (show n < 2 ^ 31 by omega), if_false, g62, q, eI, if_true, nI_1]
      · have hbi : b ≠ i := fun z => hne (by rw [z]; exact q)
        have := hx b hbn hne
        by_cases z : b < i
        · rw [if_pos z] at this; rw [if_pos (by omega)]; exact this
        · rw [if_neg z] at this; rw [if_neg (by omega)]; exact this
    · have bi := hx i hi q
      rw [if_neg (Nat.lt_irrefl i)] at bi
      obtain ⟨h', e', b', f'⟩ := grow_M w hC gM hs hn hi (wb i hi q) bi g30 g12 g62 hg q
      refine ⟨(nI (i + 1), h'), e', rfl, fun b hbn hne => ?_, fx.y f' hi q⟩
      by_cases zz : b = i
      · subst zz
        rw [if_pos (by omega)]; exact b'
      · have := (hx b hbn hne).y f' zz
        by_cases z2 : b < i
        · rw [if_pos z2] at this; rw [if_pos (by omega)]; exact this
        · rw [if_neg z2] at this; rw [if_neg (by omega)]; exact this)
  have e1 : x = nI n := e1
  have hx : ∀ b, b < n → g ≠ some b → bxM (if b < n then growB S y (Ps b) (Bs b) else Bs b) (Ps b) s b m1 := hx
  have fx : frA s n g m m1 := fx
  subst e1
  have g12 : m1.1 0 12 = nI n := (fx.o (by omega) (by omega)).trans h12
  refine ⟨m1, ?_, fun b hbn hne => by have := hx b hbn hne; rw [if_pos hbn] at this; exact this, fx⟩
  rw [e]
  refine lp_inr ?_
  simp only [f12_yearGoes_50_s, g12, nI_le (Nat.le_refl n) (show n < 2 ^ 31 by omega), if_true]
/-- numbers, and whether a year is damp -/
def nxt (n : Nat) : Nat := (n * 1103515245 + 12345) % 2 ^ 31
theorem nxt_lt (n : Nat) : nxt n < 2 ^ 31 := Nat.mod_lt _ (by omega)
def dmpS (dp : Nat) (nd dr : Bool) (num : Nat) : Bool × Nat := if nd then (false, num) else if dp = 0 then (false, num) else if dp = 100 then (true, num) else if dr then (decide (nxt num / 65536 % 100 < dp), nxt num) else (decide (50 ≤ dp), num)
theorem lN_and31 {k : Nat} (h : k < 2 ^ 64) : lN k &&& 2147483647 = lN (k % 2 ^ 31) := by
  apply Int64.toBitVec_inj.mp
  apply BitVec.eq_of_toNat_eq
  show (BitVec.ofNat 64 k &&& BitVec.ofNat 64 2147483647).toNat = (BitVec.ofNat 64 (k % 2 ^ 31)).toNat
  rw [BitVec.toNat_and, BitVec.toNat_ofNat, BitVec.toNat_ofNat, BitVec.toNat_ofNat, Nat.mod_eq_of_lt h, Nat.mod_eq_of_lt (show 2147483647 < 2 ^ 64 by omega), show (2147483647 : Nat) = 2 ^ 31 - 1 from rfl, Nat.and_two_pow_sub_one_eq_mod, Nat.mod_eq_of_lt (show k % 2 ^ 31 < 2 ^ 64 by omega)]
theorem nxt_lN {n : Nat} (h : n < 2 ^ 31) : (lN n * 1103515245 + 12345) &&& 2147483647 = lN (nxt n) := by
  rw [show (1103515245 : Int64) = lN 1103515245 from rfl, show (12345 : Int64) = lN 12345 from rfl, lN_mul, lN_add, lN_and31 (by omega)]; rfl
theorem nxt_I {n : Nat} (h : n < 2 ^ 31) : f9_nextNumber (nI n) = some (nI (nxt n)) := by
  unfold f9_nextNumber
  rw [nI_l h, nxt_lN h, lN_i]
theorem number1_eq {n : Nat} {m : Hp} (h : n < 2 ^ 31) (e : m.2.1 0 57 = lN n) : f12_number1 100 m = some (nI (nxt n / 65536 % 100), wJ m 0 57 (lN (nxt n))) := by
  have hl := nxt_lt n
  have hd : nxt n / 65536 < 2 ^ 63 := by omega
  simp only [f12_number1, lt, gd, e, nxt_lN h, wJ_s, show (100 : Int32).toInt64 = lN 100 from rfl, show (!decide (lN 100 = 0)) = true from by decide, if_true, show (65536 : Int64) = lN 65536 from rfl, pk_lDiv (show nxt n < 2 ^ 63 by omega) (show 0 < 65536 by omega) (show 65536 < 2 ^ 63 by omega), pk_lRem hd (show 0 < 100 by omega) (show 100 < 2 ^ 63 by omega), lN_i]
theorem isDamp_ex {dp num : Nat} {nd dr : Bool} {m : Hp} (h58 : m.1 0 58 = bI dr) (h59 : m.1 0 59 = bI nd) (h4 : m.1 4 0 = nI dp) (hdp : dp ≤ 100) (h57 : m.2.1 0 57 = lN num) (hnum : num < 2 ^ 31) : ∃ m', f12_isDamp m = some (bI (dmpS dp nd dr num).1, m') ∧ m'.1 = m.1 ∧ m'.2.1 0 57 = lN (dmpS dp nd dr num).2 ∧ (∀ q k, ¬ (q = 0 ∧ k = 57) → m'.2.1 q k = m.2.1 q k) ∧ m'.2.2 = m.2.2 := by
  have c0 : inb 0 4 = true ∧ ix 0 = 0 := by decide
  have hN1 := number1_eq hnum h57
  simp only [f12_isDamp, gd, c0, if_true, h59, h58, h4]
  unfold dmpS
  generalize nxt num = z at hN1 ⊢
  have fin : ∀ d : Bool, ∃ m', some (bI d, m) = some (bI d, m') ∧ m'.1 = m.1 ∧ m'.2.1 0 57 = lN num ∧ (∀ q k, ¬ (q = 0 ∧ k = 57) → m'.2.1 q k = m.2.1 q k) ∧ m'.2.2 = m.2.2 := fun d => ⟨m, rfl, rfl, h57, fun _ _ _ => rfl, rfl⟩
  have t1 : bI true = 1 := rfl
  have t0 : bI false = 0 := rfl
  cases nd with
  | true =>
    rw [t1, if_neg (show ¬ ((1 : Int32) = 0) from by decide), if_pos rfl]
    exact fin false
  | false =>
    rw [t0, if_pos rfl, if_neg (show ¬ (false = true) from by decide)]
    by_cases q0 : dp = 0
    · subst q0
      rw [if_pos (show (nI 0 : Int32) = 0 from rfl), if_pos rfl]
      exact fin false
    · rw [if_neg (nI_ne0 (by omega) (by omega)), if_neg q0]
      by_cases q1 : dp = 100
      · subst q1
        rw [if_pos (show (nI 100 : Int32) = 100 from rfl), if_pos rfl]
        exact fin true
      · rw [if_neg (by rw [show (100 : Int32) = nI 100 from rfl, nI_eq (by omega) (by omega)]; exact q1), if_neg q1]
        cases dr with
        | false =>
          rw [t0, if_pos rfl, if_neg (show ¬ (false = true) from by decide)]
          by_cases q2 : dp < 50
          · rw [if_pos (by rw [show (50 : Int32) = nI 50 from rfl]; exact nI_lt q2 (by omega)), decide_eq_false (by omega)]
            exact fin false
          · rw [if_neg (by rw [show (50 : Int32) = nI 50 from rfl]; exact nI_nlt (by omega) (by omega)), decide_eq_true (by omega)]
            exact fin true
        | true =>
          rw [t1, if_neg (show ¬ ((1 : Int32) = 0) from by decide), if_pos rfl, hN1, Option.bind_some]
          refine ⟨wJ m 0 57 (lN z), ?_, rfl, wJ_s, fun q k n => wJ_o n, rfl⟩
          show (if (wJ m 0 57 (lN z)).1 4 0 ≤ nI (z / 65536 % 100) then _ else _) = _
          rw [wJ_1, h4]
          by_cases q2 : z / 65536 % 100 < dp
          · rw [if_neg (nI_ge q2 (by omega)), decide_eq_true q2]; exact rfl
          · rw [if_pos (nI_le (by omega) (by omega)), decide_eq_false q2]; exact rfl
def frZ (s n : Nat) (g : Option Nat) (m m' : Hp) : Prop := (∀ q k, ¬ (q = 0 ∧ k = 48) → ¬ ((q = 30 ∨ q = 31) ∧ k = s) → (24 ≤ q → q ≤ 27 → ∀ b, b < n → g ≠ some b → k ≠ 6 * s + b) → m'.1 q k = m.1 q k) ∧ m'.2.1 0 74 = m.2.1 0 74 ∧ m'.2.2 = m.2.2
theorem frZ.rf {s n : Nat} {g : Option Nat} {m : Hp} : frZ s n g m m := ⟨fun _ _ _ _ _ => rfl, rfl, rfl⟩
theorem frZ.tr {s n : Nat} {g : Option Nat} {m m' m'' : Hp} (h : frZ s n g m m') (f : frZ s n g m' m'') : frZ s n g m m'' := ⟨fun q k a d e => (f.1 q k a d e).trans (h.1 q k a d e), f.2.1.trans h.2.1, f.2.2.trans h.2.2⟩
theorem frZ.o {s n q k : Nat} {g : Option Nat} {m m' : Hp} (h : frZ s n g m m') (a : ¬ (q = 0 ∧ k = 48)) (d : ¬ ((q = 30 ∨ q = 31) ∧ k = s)) (b : ¬ (24 ≤ q ∧ q ≤ 27)) : m'.1 q k = m.1 q k := h.1 q k a d (fun x y => absurd ⟨x, y⟩ b)
theorem bxM.p {B P : Bx} {s b : Nat} {m m' : Hp} (h : bxM B P s b m) (f : ∀ q k, q = 0 ∧ (k = 60 ∨ k = 61) ∨ q = 7 ∨ q = 8 ∨ 24 ≤ q ∧ q ≤ 29 → m'.1 q k = m.1 q k) : bxM B P s b m' := by
  obtain ⟨h1, h2, h3, h4, h5, h6, h7, h8⟩ := h
  refine ⟨?_, ?_, ?_, ?_, ?_, ?_, ?_, fun k hk => ?_⟩
  · rw [f _ _ (by omega)]; exact h1
  · rw [f _ _ (by omega)]; exact h2
  · rw [f _ _ (by omega)]; exact h3
  · rw [f _ _ (by omega)]; exact h4
  · rw [f _ _ (by omega)]; exact h5
  · rw [f _ _ (by omega), f _ _ (by omega)]; exact h6
  · rw [f _ _ (by omega), f _ _ (by omega)]; exact h7
  · rw [f _ _ (by omega)]; exact h8 k hk
/-- a year of part s of the reference -/
theorem yearM_ex {S : Sp} {t s n y Y dp num : Nat} {nd dr : Bool} {g : Option Nat} {Bs Ps : Nat → Bx} {c m : Hp} (w : wfLaws S) (hC : lawC S t c) (hM : lawM S m) (hs : s ≤ 1) (hn : n ≤ 6) (hY : Y ≤ 12000) (h12 : m.1 0 12 = nI n) (h62 : m.1 0 62 = eI g) (hg : ∀ j, g = some j → j < 6) (h58 : m.1 0 58 = bI dr) (h59 : m.1 0 59 = bI nd) (h4 : m.1 4 0 = nI dp) (hdp : dp ≤ 100) (h57 : m.2.1 0 57 = lN num) (hnum : num < 2 ^ 31) (hy : m.1 30 s = nI y) (wb : ∀ b, b < n → g ≠ some b → wfB Y (Bs b) (Ps b)) (hb : ∀ b, b < n → g ≠ some b → bxM (Bs b) (Ps b) s b m) : ∃ m', f12_yearGoes (nI s) m = some m' ∧ (∀ b, b < n → g ≠ some b → bxM (yrB S y (dmpS dp nd dr num).1 (Ps b) (Bs b)) (Ps b) s b m') ∧ m'.1 30 s = nI (y + 1) ∧ m'.1 31 s = m.1 31 s + bI (dmpS dp nd dr num).1 ∧ m'.2.1 0 57 = lN (dmpS dp nd dr num).2 ∧ frZ s n g m m' := by
  have is2 := inb_t (show s < 2 by omega) (show 2 < 2 ^ 31 by omega)
  have xs := ix_nI (show s < 2 ^ 31 by omega)
  obtain ⟨m1, e1, b1, f1⟩ := year_1 w hC hM hs hn hY h12 h62 hg hy wb hb
  have k58 := (f1.o (q := 0) (k := 58) (by omega) (by omega)).trans h58
  have k59 := (f1.o (q := 0) (k := 59) (by omega) (by omega)).trans h59
  have k4 := (f1.o (q := 4) (k := 0) (by omega) (by omega)).trans h4
  have k57 : m1.2.1 0 57 = lN num := by rw [f1.2.1 0 (by omega) (by omega)]; exact h57
  obtain ⟨m2, e2, o2, n2, j2, r2⟩ := isDamp_ex k58 k59 k4 hdp k57 hnum
  generalize hd : (dmpS dp nd dr num).1 = d at *
  generalize hN : (dmpS dp nd dr num).2 = num' at *
  have a30 : m1.1 30 s = nI y := (f1.o (by omega) (by omega)).trans hy
  have a31 : m1.1 31 s = m.1 31 s := f1.o (by omega) (by omega)
  have b2 : ∀ b, b < n → g ≠ some b → bxM (lgB S y (Ps b) (Bs b)) (Ps b) s b m2 := fun b hbn hne => (b1 b hbn hne).o o2
  rw [e1]
  cases d with
  | false =>
    refine ⟨wI m2 30 s (nI (y + 1)), ?_, fun b hbn hne => ?_, wI_s, ?_, n2, ?_⟩
    · simp only [f12_yearGoes_31, f12_yearGoes_137, e2, Option.bind_some, bI, Bool.false_eq_true, if_false, if_true, gd, is2, xs, lt, o2, a30, nI_1]
    · exact (b2 b hbn hne).p (fun q k h => wI_o (by omega))
    · rw [wI_o (by omega), o2, a31]
      show m.1 31 s = m.1 31 s + 0
      rw [Int32.add_zero]
    · refine ⟨fun q k a d e => ?_, ?_, r2.trans f1.2.2⟩
      · rw [wI_o (by omega), o2]; exact f1.1 q k a e
      · show m2.2.1 0 74 = _
        rw [j2 0 74 (by omega), f1.2.1 0 (by omega) (by omega)]
  | true =>
    obtain ⟨m3, e3⟩ : ∃ m3, m3 = wI m2 31 s (m.1 31 s + 1) := ⟨_, rfl⟩
    have o3 : ∀ q k, ¬ (q = 31 ∧ k = s) → m3.1 q k = m1.1 q k := fun q k h => by rw [e3, wI_o h, o2]
    have b3 : ∀ b, b < n → g ≠ some b → bxM (lgB S y (Ps b) (Bs b)) (Ps b) s b m3 := fun b hbn hne => (b2 b hbn hne).p (fun q k h => by rw [e3]; exact wI_o (by omega))
    have M3 : lawM S m3 := hM.o (fun q k a d => (o3 q k (by omega)).trans (f1.o (by omega) (by omega)))
    obtain ⟨m4, e4, b4, f4⟩ := year_2 (Bs := fun b => lgB S y (Ps b) (Bs b)) (y := y) w hC M3 hs hn ((o3 _ _ (by omega)).trans ((f1.o (by omega) (by omega)).trans h12)) ((o3 _ _ (by omega)).trans ((f1.o (by omega) (by omega)).trans h62)) hg ((o3 _ _ (by omega)).trans a30) (fun b hbn hne => wf_lg (wb b hbn hne)) b3
    have a4 : m4.1 30 s = nI y := (f4.o (by omega) (by omega)).trans ((o3 _ _ (by omega)).trans a30)
    refine ⟨wI m4 30 s (nI (y + 1)), ?_, fun b hbn hne => ?_, wI_s, ?_, ?_, ?_⟩
    · simp only [f12_yearGoes_31, e2, Option.bind_some, bI, if_true, one_ne, if_false, gd, is2, xs, lt, o2, a31, ← e3, e4, f12_yearGoes_137, a4, nI_1]
    · exact (b4 b hbn hne).p (fun q k h => wI_o (by omega))
    · rw [wI_o (by omega), f4.o (by omega) (by omega), e3, wI_s]; rfl
    · show m4.2.1 0 57 = _
      rw [f4.2.1 0 (by omega) (by omega), e3]; exact n2
    · refine ⟨fun q k a d e => ?_, ?_, ?_⟩
      · rw [wI_o (by omega), f4.1 q k a e, o3 q k (by omega)]; exact f1.1 q k a e
      · show m4.2.1 0 74 = _
        rw [f4.2.1 0 (by omega) (by omega), e3]
        show m2.2.1 0 74 = _
        rw [j2 0 74 (by omega), f1.2.1 0 (by omega) (by omega)]
      · show m4.2.2 = _
        rw [f4.2.2, e3]; exact r2.trans f1.2.2
