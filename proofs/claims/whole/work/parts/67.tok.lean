/-! Tokens: words on both sides. -/
def frT (c c' : Hp) : Prop := (∀ q k, ¬ (q = 1 ∧ 3 ≤ k ∧ k ≤ 6) → c'.1 q k = c.1 q k) ∧ c'.2 = c.2
def frU (m m' : Hp) : Prop := (∀ q k, ¬ (q = 0 ∧ 7 ≤ k ∧ k ≤ 10) → m'.1 q k = m.1 q k) ∧ m'.2 = m.2
theorem frT.rf {c : Hp} : frT c c := ⟨fun _ _ _ => rfl, rfl⟩
theorem frU.rf {c : Hp} : frU c c := ⟨fun _ _ _ => rfl, rfl⟩
theorem frT.tr {a b c : Hp} (h : frT a b) (h' : frT b c) : frT a c := ⟨fun q k n => (h'.1 q k n).trans (h.1 q k n), h'.2.trans h.2⟩
theorem frU.tr {a b c : Hp} (h : frU a b) (h' : frU b c) : frU a c := ⟨fun q k n => (h'.1 q k n).trans (h.1 q k n), h'.2.trans h.2⟩
theorem frT.w {c h : Hp} {k : Nat} {v : Int32} (f : frT c h) (hk : 3 ≤ k ∧ k ≤ 6) : frT c (wI h 1 k v) := ⟨fun q j n => (wI_o (by omega)).trans (f.1 q j n), f.2⟩
theorem frU.w {c h : Hp} {k : Nat} {v : Int32} (f : frU c h) (hk : 7 ≤ k ∧ k ≤ 10) : frU c (wI h 0 k v) := ⟨fun q j n => (wI_o (by omega)).trans (f.1 q j n), f.2⟩
/-- the tape up to E on both sides -/
def tap (T : Nat → Nat) (E : Nat) (c m : Hp) : Prop := E ≤ 700 ∧ c.1 1 2 = nI E ∧ m.1 0 6 = nI E ∧ (∀ i, i < E → T i < 256 ∧ c.1 2 i = by8 (T i) ∧ m.1 1 i = nI (T i)) ∧ wrdM m
theorem tap.fr {T : Nat → Nat} {E : Nat} {c c' m m' : Hp} (h : tap T E c m) (f : frT c c') (g : frU m m') : tap T E c' m' := by
  obtain ⟨h1, h2, h3, h4, h5⟩ := h
  exact ⟨h1, (f.1 _ _ (by omega)).trans h2, (g.1 _ _ (by omega)).trans h3, fun i hi => ⟨(h4 i hi).1, (f.1 _ _ (by omega)).trans (h4 i hi).2.1, (g.1 _ _ (by omega)).trans (h4 i hi).2.2⟩, fun j hj => (g.1 _ _ (by omega)).trans (h5 j hj)⟩
theorem or_add {a b k : Nat} (h : b < 2 ^ k) (h2 : 2 ^ k * a + b < 2 ^ 32) : nI (2 ^ k * a) ||| nI b = nI (2 ^ k * a + b) := by
  apply Int32.toBitVec_inj.mp
  apply BitVec.eq_of_toNat_eq
  show (BitVec.ofNat 32 (2 ^ k * a) ||| BitVec.ofNat 32 b).toNat = (BitVec.ofNat 32 (2 ^ k * a + b)).toNat
  rw [BitVec.toNat_or, BitVec.toNat_ofNat, BitVec.toNat_ofNat, BitVec.toNat_ofNat, Nat.mod_eq_of_lt (show 2 ^ k * a < 2 ^ 32 by omega), Nat.mod_eq_of_lt (show b < 2 ^ 32 by omega), Nat.mod_eq_of_lt h2, Nat.two_pow_add_eq_or_of_lt h]
theorem run_ex (p : Nat → Bool) (E : Nat) : ∀ d q, q + d = E → ∃ n, q + n ≤ E ∧ (∀ i, i < n → p (q + i) = true) ∧ (q + n < E → p (q + n) = false)
  | 0, q, h => ⟨0, by omega, fun i hi => by omega, fun z => by omega⟩
  | d + 1, q, h => by
    cases hp : p q with
    | false => exact ⟨0, by omega, fun i hi => by omega, fun _ => hp⟩
    | true =>
      obtain ⟨n, h1, h2, h3⟩ := run_ex p E d (q + 1) (by omega)
      refine ⟨n + 1, by omega, fun i hi => ?_, fun z => ?_⟩
      · by_cases e : i = 0
        · rw [e]; exact hp
        · have := h2 (i - 1) (by omega)
          rw [show q + 1 + (i - 1) = q + i by omega] at this
          exact this
      · rw [show q + (n + 1) = q + 1 + n by omega]; exact h3 (by omega)
section TOK
variable {T : Nat → Nat} {E : Nat} {c m : Hp}
theorem isLet {i : Nat} (h : tap T E c m) (hi : i < E) : f8_isLetter (c.1 2 i) = some (bI (isL (T i))) := by rw [(h.2.2.2.1 i hi).2.1]; exact (by_all (T i) (h.2.2.2.1 i hi).1).1
theorem isDig {i : Nat} (h : tap T E c m) (hi : i < E) : f8_isDigit (c.1 2 i) = some (bI (isD (T i))) := by rw [(h.2.2.2.1 i hi).2.1]; exact (by_all (T i) (h.2.2.2.1 i hi).1).2.1
theorem isSm {i : Nat} (h : tap T E c m) (hi : i ≤ E) : f12_isSmall (nI i) m = some (bI (decide (i < E) && isL (T i))) := by
  have hE := h.1
  simp only [f12_isSmall, f12_isSmall_34, h.2.2.1]
  by_cases q : i < E
  · obtain ⟨t1, -, t3⟩ := h.2.2.2.1 i q
    simp only [nI_ge q (show E < 2 ^ 31 by omega), if_false, gd, inb_t (show i < 700 by omega) (by omega), ix_nI (show i < 2 ^ 31 by omega), if_true, t3, q, decide_true, Bool.true_and]
    unfold isL
    by_cases q1 : T i < 97
    · rw [if_pos (by rw [show (97 : Int32) = nI 97 from rfl]; exact nI_lt q1 (by omega)), decide_eq_false (by omega)]; rfl
    · rw [if_neg (by rw [show (97 : Int32) = nI 97 from rfl]; exact nI_nlt (by omega) (by omega))]
      by_cases q2 : 122 < T i
      · rw [if_pos (by rw [show (122 : Int32) = nI 122 from rfl]; exact nI_lt q2 (by omega)), decide_eq_false (by omega)]; rfl
      · rw [if_neg (by rw [show (122 : Int32) = nI 122 from rfl]; exact nI_nlt (by omega) (by omega)), decide_eq_true (by omega)]; rfl
  · rw [if_pos (nI_le (by omega) (by omega)), decide_eq_false q]; rfl
theorem isDg {i : Nat} (h : tap T E c m) (hi : i ≤ E) : f12_isDigit (nI i) m = some (bI (decide (i < E) && isD (T i))) := by
  have hE := h.1
  simp only [f12_isDigit, f12_isDigit_34, h.2.2.1]
  by_cases q : i < E
  · obtain ⟨t1, -, t3⟩ := h.2.2.2.1 i q
    simp only [nI_ge q (show E < 2 ^ 31 by omega), if_false, gd, inb_t (show i < 700 by omega) (by omega), ix_nI (show i < 2 ^ 31 by omega), if_true, t3, q, decide_true, Bool.true_and]
    unfold isD
    by_cases q1 : T i < 48
    · rw [if_pos (by rw [show (48 : Int32) = nI 48 from rfl]; exact nI_lt q1 (by omega)), decide_eq_false (by omega)]; rfl
    · rw [if_neg (by rw [show (48 : Int32) = nI 48 from rfl]; exact nI_nlt (by omega) (by omega))]
      by_cases q2 : 57 < T i
      · rw [if_pos (by rw [show (57 : Int32) = nI 57 from rfl]; exact nI_lt q2 (by omega)), decide_eq_false (by omega)]; rfl
      · rw [if_neg (by rw [show (57 : Int32) = nI 57 from rfl]; exact nI_nlt (by omega) (by omega)), decide_eq_true (by omega)]; rfl
  · rw [if_pos (nI_le (by omega) (by omega)), decide_eq_false q]; rfl
theorem wordAt_st {q n w : Nat} (h : tap T E c m) (hq : q + n ≤ E) (hw : w < 20) : (mtch T q n w → f12_wordAt_5_s (nI q) (nI (q + n)) (nI w) (nI (off w)) m = some (.inr (nI w))) ∧ (¬ mtch T q n w → f12_wordAt_5_s (nI q) (nI (q + n)) (nI w) (nI (off w)) m = some (.inl (nI (w + 1), nI (off (w + 1))))) := by
  obtain ⟨l1, l2, l3, l4, l5, l6, l7, l8⟩ := lang_all w hw
  have e := wordAt_1 (w := w) h.2.2.2.2 h.1 hq (fun i hi => ⟨(h.2.2.2.1 i hi).1, (h.2.2.2.1 i hi).2.2⟩) hw
  have g : ¬ (101 : Int32) ≤ nI (off w) := by rw [lit]; exact nI_ge (by omega) (by omega)
  have e2 : f12_wordAt_5_s (nI q) (nI (q + n)) (nI w) (nI (off w)) m = f12_wordAt_18 (nI q) (nI (q + n)) (nI w) (nI (off w)) 0 m := by
    simp only [f12_wordAt_5_s, g, if_false]
  rw [e] at e2
  constructor
  · rintro ⟨a, b⟩
    rw [e2, if_pos]
    refine ⟨?_, a⟩
    rw [if_pos a, alB_t]
    intro i hi
    exact decide_eq_true (b i (by omega))
  · intro hn
    rw [e2, if_neg]
    rintro ⟨a, b⟩
    rw [if_pos b, alB_t] at a
    exact hn ⟨b, fun i hi => of_decide_eq_true (a i (by omega))⟩
theorem wordAt_key {q n w : Nat} (h : tap T E c m) (hq : q + n ≤ E) (hn : n ≤ 6) (hl : ∀ i, i < n → isL (T (q + i)) = true) (hw : w < 20) (e : pkF (flT T q n) 6 = langN w) : f12_wordAt (nI q) (nI (q + n)) m = some (nI w) := by
  unfold f12_wordAt f12_wordAt_5
  refine lp_for1 (f := fun z : Int32 × Int32 => f12_wordAt_5_s (nI q) (nI (q + n)) z.1 z.2 m) (fun v => (nI v, nI (off v))) w (fun v hv => ?_) ?_
  · refine (wordAt_st h hq (by omega)).2 (fun z => ?_)
    have := (mtch_iff hn hl (show v < 20 by omega)).mp z
    have := lang_ne v (by omega) w hw (by rw [← this, e])
    omega
  · exact (wordAt_st h hq hw).1 ((mtch_iff hn hl hw).mpr e)
theorem wordAt_no {q n : Nat} (h : tap T E c m) (hq : q + n ≤ E) (hno : ∀ w, w < 20 → ¬ mtch T q n w) : f12_wordAt (nI q) (nI (q + n)) m = some (-1) := by
  unfold f12_wordAt f12_wordAt_5
  refine lp_for1 (f := fun z : Int32 × Int32 => f12_wordAt_5_s (nI q) (nI (q + n)) z.1 z.2 m) (fun v => (nI v, nI (off v))) 20 (fun v hv => ?_) ?_
  · exact (wordAt_st h hq hv).2 (hno v hv)
  · have : (101 : Int32) ≤ nI (off 20) := by decide
    simp only [f12_wordAt_5_s, this, if_true]
theorem packed_eq {q n : Nat} (h : tap T E c m) (hq : q + n ≤ E) (hl : ∀ i, i < n → isL (T (q + i)) = true) : f12_packed (nI q) (nI (q + n)) m = some (nI (pkF (flT T q n) 6)) := by
  have hE := h.1
  unfold f12_packed f12_packed_5
  refine lp_for1 (f := fun z : Int32 × Int32 => f12_packed_5_s (nI q) (nI (q + n)) z.1 z.2 m) (fun k => (nI (pkF (flT T q n) k), nI (q + k))) 6 (fun k hk => ?_) ?_
  · have e6 : (nI q + 6 : Int32) = nI (q + 6) := by rw [show (6 : Int32) = nI 6 from rfl, nI_add]
    have hb := pkF_lt (f := flT T q n) k (fun i _ => flT_lt hl i)
    have hb2 : 32 ^ k ≤ 32 ^ 5 := Nat.pow_le_pow_right (by omega) (by omega)
    have es : nI (pkF (flT T q n) k) <<< ((5 : Int32) &&& 31) = nI (2 ^ 5 * pkF (flT T q n) k) := by
      rw [pk_shlN _ 5 (by decide) (by omega), Nat.mul_comm]
    have fk := flT_lt hl k
    have eo : nI (2 ^ 5 * pkF (flT T q n) k) ||| nI (flT T q n k) = nI (pkF (flT T q n) (k + 1)) := by
      rw [or_add (by omega) (by omega)]; rfl
    simp only [f12_packed_5_s, f12_packed_37, e6, nI_ge (show q + k < q + 6 by omega) (show q + 6 < 2 ^ 31 by omega), if_false, es, lt, nI_1]
    rw [← eo]
    by_cases z : k < n
    · obtain ⟨t1, -, t3⟩ := h.2.2.2.1 (q + k) (by omega)
      have hlk := hl k z
      unfold isL at hlk
      rw [decide_eq_true_eq] at hlk
      have e9 : (nI (T (q + k)) - 96 : Int32) = nI (flT T q n k) := by
        unfold flT
        rw [if_pos z, show (96 : Int32) = nI 96 from rfl]; exact pk_sub (by omega)
      simp only [nI_ge (show q + k < q + n by omega) (show q + n < 2 ^ 31 by omega), if_false, gd, inb_t (show q + k < 700 by omega) (by omega), ix_nI (show q + k < 2 ^ 31 by omega), if_true, t3, e9]
      rfl
    · have e9 : flT T q n k = 0 := by unfold flT; rw [if_neg z]
      rw [e9]
      simp only [nI_le (show q + n ≤ q + k by omega) (show q + k < 2 ^ 31 by omega), if_true]
      rfl
  · have e6 : (nI q + 6 : Int32) = nI (q + 6) := by rw [show (6 : Int32) = nI 6 from rfl, nI_add]
    simp only [f12_packed_5_s, e6, nI_le (Nat.le_refl (q + 6)) (show q + 6 < 2 ^ 31 by omega), if_true]
theorem pk_tail {q j : Nat} : ∀ d, pkF (flT T q j) (j + d) = 32 ^ d * pkF (flT T q j) j
  | 0 => by rw [Nat.add_zero, Nat.pow_zero, Nat.one_mul]
  | d + 1 => by
    show 32 * pkF (flT T q j) (j + d) + flT T q j (j + d) = _
    rw [pk_tail d, show flT T q j (j + d) = 0 from if_neg (by omega), Nat.pow_succ, Nat.mul_comm (32 ^ d) 32, Nat.mul_assoc]
    rfl
theorem sh_w : ∀ j, j < 6 → (((25 - 5 * nI j : Int32) &&& 31).toBitVec.smod 32).toNat = 25 - 5 * j ∧ 32 ^ (5 - j) = 2 ^ (25 - 5 * j) ∧ 32 ^ (6 - j) = 2 ^ (30 - 5 * j) ∧ 2 ^ (30 - 5 * j) = 32 * 2 ^ (25 - 5 * j) ∧ 32 ^ j * 2 ^ (30 - 5 * j) = 2 ^ 30 := by decide +kernel
/-- one letter more -/
theorem letter_or {q j l : Nat} (hj : j < 6) (hl : ∀ i, i < j → isL (T (q + i)) = true) (h : isL (T (q + j)) = true) (e : l = T (q + j) - 96) : nI (pkF (flT T q j) 6) ||| (nI l <<< ((25 - 5 * nI j : Int32) &&& 31)) = nI (pkF (flT T q (j + 1)) 6) := by
  obtain ⟨s1, s2, s3, s4, s5⟩ := sh_w j hj
  unfold isL at h
  rw [decide_eq_true_eq] at h
  have hl32 : l < 32 := by omega
  have hP := pkF_lt (f := flT T q j) j (fun i _ => flT_lt hl i)
  have e1 : pkF (flT T q j) 6 = 2 ^ (30 - 5 * j) * pkF (flT T q j) j := by
    have := pk_tail (T := T) (q := q) (j := j) (6 - j)
    rw [show j + (6 - j) = 6 by omega, s3] at this
    exact this
  have e2 : pkF (flT T q (j + 1)) 6 = 2 ^ (30 - 5 * j) * pkF (flT T q j) j + l * 2 ^ (25 - 5 * j) := by
    have := pk_tail (T := T) (q := q) (j := j + 1) (5 - j)
    rw [show j + 1 + (5 - j) = 6 by omega, s2] at this
    rw [this]
    have e3 : pkF (flT T q (j + 1)) (j + 1) = 32 * pkF (flT T q j) j + l := by
      show 32 * pkF (flT T q (j + 1)) j + flT T q (j + 1) j = _
      rw [pkF_c (g := flT T q j) j (fun i hi => by unfold flT; rw [if_pos (by omega), if_pos hi]), show flT T q (j + 1) j = T (q + j) - 96 from if_pos (by omega), e]
    rw [e3, s4, Nat.mul_add, Nat.mul_comm _ l, ← Nat.mul_assoc, Nat.mul_comm (2 ^ (25 - 5 * j)) 32]
  have b1 : l * 2 ^ (25 - 5 * j) < 2 ^ (30 - 5 * j) := by
    rw [s4]
    exact Nat.mul_lt_mul_of_pos_right hl32 (Nat.pow_pos (by omega))
  have b2 : 2 ^ (30 - 5 * j) * pkF (flT T q j) j + 2 ^ (30 - 5 * j) ≤ 2 ^ 30 := by
    have k := Nat.mul_le_mul_left (2 ^ (30 - 5 * j)) (show pkF (flT T q j) j + 1 ≤ 32 ^ j by omega)
    rw [Nat.mul_add, Nat.mul_one, Nat.mul_comm _ (32 ^ j), s5] at k
    exact k
  rw [pk_shlN _ (25 - 5 * j) s1 (by omega), e1, or_add b1 (by omega), e2]
end TOK
