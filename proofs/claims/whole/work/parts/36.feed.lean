/-! feed. -/
/-- 0 9 how many bytes the tape has; 14 the bytes -/
def wfTap (S : Sp) : Prop := S 0 9 ≤ 700 ∧ ∀ i, i < S 0 9 → S 14 i < 256
def by8 (n : Nat) : Int32 := (nI n).toInt8.toInt32
def tapC (S : Sp) (c : Hp) : Prop := c.1 1 1 = nI (S 0 9) ∧ ∀ i, i < S 0 9 → c.1 2 i = by8 (S 14 i)
def tapM (S : Sp) (m : Hp) : Prop := m.1 0 1 = nI (S 0 9) ∧ ∀ i, i < S 0 9 → m.1 1 i = nI (S 14 i)
/-- byte k of four of a word -/
def byt (x : Int32) (k : Nat) : Nat := (x >>> (nI (24 - 8 * k) &&& 31)).toBitVec.toNat % 256
theorem byt_lt (x : Int32) (k : Nat) : byt x k < 256 := Nat.mod_lt _ (by omega)
theorem byt_and (x : Int32) (k : Nat) : (x >>> (nI (24 - 8 * k) &&& 31)) &&& 255 = nI (byt x k) := pk_and _ 8 (by decide)
theorem b8_of (y : Int32) : (y.toInt8.toInt32).toInt8.toInt32 = by8 (y.toBitVec.toNat % 256) := by
  have h1 : (y.toInt8.toInt32).toInt8 = y.toInt8 := by simp
  rw [h1]
  unfold by8
  congr 1
  apply Int8.toBitVec_inj.mp
  apply BitVec.eq_of_toNat_eq
  show (y.toBitVec.signExtend 8).toNat = ((nI (y.toBitVec.toNat % 256)).toBitVec.signExtend 8).toNat
  have hw : ∀ z : BitVec 32, (z.signExtend 8).toNat = z.toNat % 256 := by
    intro z
    rw [BitVec.signExtend_eq_setWidth_of_le z (by omega)]
    rw [BitVec.toNat_setWidth]
  rw [hw, hw, pk_tn (by omega)]
  omega
theorem byt_c (x : Int32) (k : Nat) : ((x >>> (nI (24 - 8 * k) &&& 31)).toInt8.toInt32).toInt8.toInt32 = by8 (byt x k) := b8_of _
/-- four bytes come behind the tape -/
theorem put_C {c : Hp} {n : Nat} (x : Int32) (h1 : c.1 1 1 = nI n) (hn : n + 4 ≤ 700) : ∃ c', f8_put x c = some c' ∧ c'.1 1 1 = nI (n + 4) ∧ (∀ q k, ¬ (q = 1 ∧ k = 1) → ¬ (q = 2 ∧ n ≤ k ∧ k < n + 4) → c'.1 q k = c.1 q k) ∧ c'.2 = c.2 ∧ ∀ k, k < 4 → c'.1 2 (n + k) = by8 (byt x k) := by
  have key : ∀ j, j ≤ 4 → ∃ c', f8_put x c = lp (fun z : Int32 × Hp => f8_put_3_s x z.1 z.2) (nI 24 - nI (8 * j), c') ∧ c'.1 1 1 = nI (n + j) ∧ (∀ q k, ¬ (q = 1 ∧ k = 1) → ¬ (q = 2 ∧ n ≤ k ∧ k < n + 4) → c'.1 q k = c.1 q k) ∧ c'.2 = c.2 ∧ ∀ k, k < j → c'.1 2 (n + k) = by8 (byt x k) := by
    intro j
    induction j with
    | zero => intro _; exact ⟨c, rfl, h1, fun _ _ _ _ => rfl, rfl, fun k hk => by omega⟩
    | succ j ih =>
      intro hj
      obtain ⟨k, e, e1, o, e2, hb⟩ := ih (by omega)
      have hs : (nI 24 - nI (8 * j) : Int32) = nI (24 - 8 * j) := pk_sub (by omega)
      have hg : ¬ (700 : Int32) ≤ nI (n + j) := by rw [lit]; exact nI_ge (by omega) (by omega)
      have hst : (nI (24 - 8 * j) + (-8) : Int32) = nI 24 - nI (8 * (j + 1)) := by
        have : j = 0 ∨ j = 1 ∨ j = 2 ∨ j = 3 := by omega
        rcases this with rfl | rfl | rfl | rfl <;> decide
      have e1' : (wI k 2 (n + j) (by8 (byt x j))).1 1 1 = nI (n + j) := by rw [wI_o (by omega)]; exact e1
      refine ⟨wI (wI k 2 (n + j) (by8 (byt x j))) 1 1 (nI (n + j + 1)), ?_, wI_s, fun q i h2 h3 => ?_, e2, fun i hi => ?_⟩
      · rw [e, hs]
        refine lp_inl ?_
        simp only [f8_put_3_s, nI_pos (show 24 - 8 * j < 2 ^ 31 by omega), if_false, e1, hg, gd, inb_t (show n + j < 700 by omega) (by omega), if_true, ix_nI (show n + j < 2 ^ 31 by omega), byt_c, lt, e1', nI_1, hst]
      · rw [wI_o h2, wI_o (by omega)]; exact o q i h2 h3
      · by_cases z : i = j
        · subst z; rw [wI_o (by omega), wI_s]
        · rw [wI_o (by omega), wI_o (by omega)]; exact hb i (by omega)
  obtain ⟨k, e, e1, o, e2, hb⟩ := key 4 (Nat.le_refl _)
  refine ⟨k, ?_, e1, o, e2, hb⟩
  rw [e]
  refine lp_inr (o := some k) ?_
  have : (nI 24 - nI (8 * 4) : Int32) < 0 := by decide
  simp only [f8_put_3_s, this, if_true, Option.map_some]
def wrd (a b c d e : Int32) (k : Nat) : Int32 := if k < 4 then a else if k < 8 then b else if k < 12 then c else if k < 16 then d else e
def fdS (S : Sp) (a b c d e : Int32) : Sp := fun x i => if x = 0 ∧ i = 9 then S 0 9 + 20 else if x = 14 ∧ S 0 9 ≤ i ∧ i < S 0 9 + 20 then byt (wrd a b c d e (i - S 0 9)) ((i - S 0 9) % 4) else S x i
theorem feedM_ex {m : Hp} {n : Nat} (a b c d e : Int32) (h1 : m.1 0 1 = nI n) (hn : n + 20 ≤ 700) : ∃ m', f12_feed_23 a b c d e 0 m = some (nI (n + 20), m') ∧ m'.1 0 1 = nI (n + 20) ∧ (∀ q k, ¬ (q = 0 ∧ k = 1) → ¬ (q = 1 ∧ n ≤ k ∧ k < n + 20) → m'.1 q k = m.1 q k) ∧ m'.2 = m.2 ∧ ∀ k, k < 20 → m'.1 1 (n + k) = nI (byt (wrd a b c d e k) (k % 4)) := by
  have key : ∀ j, j ≤ 20 → ∃ m', f12_feed_23 a b c d e 0 m = lp (fun z : Int32 × Hp => f12_feed_23_s a b c d e z.1 z.2) (nI j, m') ∧ m'.1 0 1 = nI n ∧ (∀ q k, ¬ (q = 1 ∧ n ≤ k ∧ k < n + 20) → m'.1 q k = m.1 q k) ∧ m'.2 = m.2 ∧ ∀ k, k < j → m'.1 1 (n + k) = nI (byt (wrd a b c d e k) (k % 4)) := by
    intro j
    induction j with
    | zero => intro _; exact ⟨m, rfl, h1, fun _ _ _ => rfl, rfl, fun k hk => by omega⟩
    | succ j ih =>
      intro hj
      obtain ⟨k, e', e1, o, e2, hb⟩ := ih (by omega)
      have h20 : ¬ (20 : Int32) ≤ nI j := by rw [lit]; exact nI_ge (by omega) (by omega)
      have hr : (nI j - nI j / 4 * 4 : Int32) = nI (j % 4) := by rw [lit]; exact pk_rem (by omega) (by omega) (by omega)
      have hs : (24 - 8 * nI (j % 4) : Int32) = nI (24 - 8 * (j % 4)) := by rw [lit, lit, pk_mul, pk_sub (by omega)]
      have st : ∀ x : Int32, f12_feed_76 a b c d e (nI j) x k = some (.inl (nI (j + 1), wI k 1 (n + j) (nI (byt x (j % 4))))) := by
        intro x
        simp only [f12_feed_76, e1, nI_add, gd, inb_t (show n + j < 700 by omega) (by omega), if_true, ix_nI (show n + j < 2 ^ 31 by omega), hr, hs, byt_and, lt, nI_1]
      refine ⟨wI k 1 (n + j) (nI (byt (wrd a b c d e j) (j % 4))), ?_, by rw [wI_o (by omega)]; exact e1, fun q i h => ?_, e2, fun i hi => ?_⟩
      · rw [e']
        refine lp_inl ?_
        have c4 : ((4 : Int32) ≤ nI j) = (4 ≤ j) := by rw [lit, nI_leI (by omega) (by omega)]
        have c8 : ((8 : Int32) ≤ nI j) = (8 ≤ j) := by rw [lit, nI_leI (by omega) (by omega)]
        have c12 : ((12 : Int32) ≤ nI j) = (12 ≤ j) := by rw [lit, nI_leI (by omega) (by omega)]
        have c16 : ((16 : Int32) ≤ nI j) = (16 ≤ j) := by rw [lit, nI_leI (by omega) (by omega)]
        simp only [f12_feed_23_s, h20, if_false, c4, c8, c12, c16, st, wrd]
        by_cases q1 : 4 ≤ j
        · by_cases q2 : 8 ≤ j
          · by_cases q3 : 12 ≤ j
            · by_cases q4 : 16 ≤ j
              · rw [if_pos q1, if_pos q2, if_pos q3, if_pos q4, if_neg (by omega), if_neg (by omega), if_neg (by omega), if_neg (by omega)]
              · rw [if_pos q1, if_pos q2, if_pos q3, if_neg q4, if_neg (by omega), if_neg (by omega), if_neg (by omega), if_pos (by omega)]
            · rw [if_pos q1, if_pos q2, if_neg q3, if_neg (by omega), if_neg (by omega), if_pos (by omega)]
          · rw [if_pos q1, if_neg q2, if_neg (by omega), if_pos (by omega)]
        · rw [if_neg q1, if_pos (by omega)]
      · rw [wI_o (by omega)]; exact o q i h
      · by_cases z : i = j
        · subst z; rw [wI_s]
        · rw [wI_o (by omega)]; exact hb i (by omega)
  obtain ⟨k, e', e1, o, e2, hb⟩ := key 20 (Nat.le_refl _)
  have ha : (nI n + 20 : Int32) = nI (n + 20) := by rw [lit, nI_add]
  refine ⟨wI k 0 1 (nI (n + 20)), ?_, wI_s, fun q i h1 h2 => ?_, e2, fun i hi => ?_⟩
  · rw [e']
    refine lp_inr (o := some _) ?_
    have h20 : (20 : Int32) ≤ nI 20 := by decide
    simp only [f12_feed_23_s, h20, if_true, f12_feed_113, lt, e1, ha, wI_s, Option.map_some]
  · rw [wI_o h1]; exact o q i h2
  · rw [wI_o (by omega)]; exact hb i hi
theorem op_feed {S : Sp} {c m : Hp} (w : wfTap S) (hC : tapC S c) (hM : tapM S m) (a b d e f : Int32) : ∃ S' r c' m', f11_feed a b d e f c = some (r, c') ∧ f12_feed a b d e f m = some (r, m') ∧ wfTap S' ∧ tapC S' c' ∧ tapM S' m' ∧ (∀ x i, ¬ (x = 0 ∧ i = 9) → ¬ x = 14 → S' x i = S x i) ∧ (∀ q k, ¬ (q = 1 ∧ k = 1) → ¬ (q = 2) → c'.1 q k = c.1 q k) ∧ c'.2 = c.2 ∧ (∀ q k, ¬ (q = 0 ∧ (k = 1 ∨ k = 2)) → ¬ (q = 1) → m'.1 q k = m.1 q k) ∧ m'.2 = m.2 := by
  have h700 := w.1
  obtain ⟨m0, em, o, o2⟩ := m0_ex2 m
  have n0 : m0.1 0 1 = nI (S 0 9) := (o _ _ (by omega)).trans hM.1
  have ha : (nI (S 0 9) + 20 : Int32) = nI (S 0 9 + 20) := by rw [lit, nI_add]
  have hc : (nI (S 0 9 + 20) ≤ (700 : Int32)) = (S 0 9 + 20 ≤ 700) := by rw [lit, nI_leI (by omega) (by omega)]
  by_cases q : S 0 9 + 20 ≤ 700
  · obtain ⟨c1, e1, f1, g1, k1, v1⟩ := put_C a hC.1 (show S 0 9 + 4 ≤ 700 by omega)
    obtain ⟨c2, e2, f2, g2, k2, v2⟩ := put_C b f1 (by omega)
    obtain ⟨c3, e3, f3, g3, k3, v3⟩ := put_C d f2 (by omega)
    obtain ⟨c4, e4, f4, g4, k4, v4⟩ := put_C e f3 (by omega)
    obtain ⟨c5, e5, f5, g5, k5, v5⟩ := put_C f f4 (by omega)
    obtain ⟨m1, e6, f6, g6, k6, v6⟩ := feedM_ex a b d e f n0 q
    have f5' : c5.1 1 1 = nI (S 0 9 + 20) := f5
    have s9 : fdS S a b d e f 0 9 = S 0 9 + 20 := by simp [fdS]
    have sIn : ∀ i, S 0 9 ≤ i → i < S 0 9 + 20 → fdS S a b d e f 14 i = byt (wrd a b d e f (i - S 0 9)) ((i - S 0 9) % 4) := fun i h1 h2 => by unfold fdS; rw [if_neg (by omega), if_pos (by omega)]
    have sOut : ∀ i, i < S 0 9 → fdS S a b d e f 14 i = S 14 i := fun i h1 => by unfold fdS; rw [if_neg (by omega), if_neg (by omega)]
    refine ⟨fdS S a b d e f, nI (S 0 9 + 20), c5, m1, ?_, ?_, ⟨by rw [s9]; exact q, fun i hi => ?_⟩, ⟨by rw [s9]; exact f5', fun i hi => ?_⟩, ⟨by rw [s9]; exact f6, fun i hi => ?_⟩, fun x i h1 h2 => ?_, fun q k h1 h2 => ?_, ?_, fun q k h1 h2 => ?_, k6.trans o2⟩
    · simp only [f11_feed, hC.1, ha, hc, q, if_true, e1, e2, e3, e4, e5, Option.bind_some, f5']
    · simp only [f12_feed, em, lt, n0, ha, hc, q, if_true, e6]
    · rw [s9] at hi
      by_cases z : i < S 0 9
      · rw [sOut i z]; exact w.2 i z
      · rw [sIn i (by omega) hi]; exact byt_lt _ _
    · rw [s9] at hi
      by_cases z : i < S 0 9
      · rw [sOut i z, g5 2 i (by omega) (by omega), g4 2 i (by omega) (by omega), g3 2 i (by omega) (by omega), g2 2 i (by omega) (by omega), g1 2 i (by omega) (by omega)]
        exact hC.2 i z
      · obtain ⟨k, rfl⟩ : ∃ k, i = S 0 9 + k := ⟨i - S 0 9, by omega⟩
        rw [sIn _ (by omega) hi, show S 0 9 + k - S 0 9 = k by omega]
        by_cases z1 : k < 4
        · rw [g5 2 _ (by omega) (by omega), g4 2 _ (by omega) (by omega), g3 2 _ (by omega) (by omega), g2 2 _ (by omega) (by omega), v1 k z1, show k % 4 = k by omega]
          unfold wrd; rw [if_pos z1]
        · by_cases z2 : k < 8
          · have hv := v2 (k - 4) (by omega)
            rw [show S 0 9 + 4 + (k - 4) = S 0 9 + k by omega] at hv
            rw [g5 2 _ (by omega) (by omega), g4 2 _ (by omega) (by omega), g3 2 _ (by omega) (by omega), hv, show k % 4 = k - 4 by omega]
            unfold wrd; rw [if_neg z1, if_pos z2]
          · by_cases z3 : k < 12
            · have hv := v3 (k - 8) (by omega)
              rw [show S 0 9 + 4 + 4 + (k - 8) = S 0 9 + k by omega] at hv
              rw [g5 2 _ (by omega) (by omega), g4 2 _ (by omega) (by omega), hv, show k % 4 = k - 8 by omega]
              unfold wrd; rw [if_neg z1, if_neg z2, if_pos z3]
            · by_cases z4 : k < 16
              · have hv := v4 (k - 12) (by omega)
                rw [show S 0 9 + 4 + 4 + 4 + (k - 12) = S 0 9 + k by omega] at hv
                rw [g5 2 _ (by omega) (by omega), hv, show k % 4 = k - 12 by omega]
                unfold wrd; rw [if_neg z1, if_neg z2, if_neg z3, if_pos z4]
              · have hv := v5 (k - 16) (by omega)
                rw [show S 0 9 + 4 + 4 + 4 + 4 + (k - 16) = S 0 9 + k by omega] at hv
                rw [hv, show k % 4 = k - 16 by omega]
                unfold wrd; rw [if_neg z1, if_neg z2, if_neg z3, if_neg z4]
    · rw [s9] at hi
      by_cases z : i < S 0 9
      · rw [sOut i z, g6 1 i (by omega) (by omega), o 1 i (by omega)]
        exact hM.2 i z
      · obtain ⟨k, rfl⟩ : ∃ k, i = S 0 9 + k := ⟨i - S 0 9, by omega⟩
        rw [sIn _ (by omega) hi, show S 0 9 + k - S 0 9 = k by omega]
        exact v6 k (by omega)
    · unfold fdS; rw [if_neg h1, if_neg (by omega)]
    · rw [g5 q k h1 (by omega), g4 q k h1 (by omega), g3 q k h1 (by omega), g2 q k h1 (by omega), g1 q k h1 (by omega)]
    · rw [k5, k4, k3, k2, k1]
    · rw [g6 q k (by omega) (by omega)]; exact o q k (by omega)
  · refine ⟨S, -1, c, m0, ?_, ?_, w, hC, ⟨n0, fun i hi => (o _ _ (by omega)).trans (hM.2 i hi)⟩, fun _ _ _ _ => rfl, fun _ _ _ _ => rfl, rfl, fun q k h1 h2 => o q k (by omega), o2⟩
    · simp only [f11_feed, hC.1, ha, hc, q, if_false]
    · simp only [f12_feed, em, lt, n0, ha, hc, q, if_false]
