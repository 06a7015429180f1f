/-! Reading a text: the empty draft, the reference's side. -/
theorem lp_cnt {ρ : Type} {f : Int32 × Hp → Option ((Int32 × Hp) ⊕ ρ)} (I : Nat → Hp → Prop) (lo n : Nat) (hs : ∀ i h, lo ≤ i → i < n → I i h → ∃ h', f (nI i, h) = some (.inl (nI (i + 1), h')) ∧ I (i + 1) h') : ∀ (d a : Nat) (h : Hp), lo ≤ a → a + d = n → I a h → ∃ h', lp f (nI a, h) = lp f (nI n, h') ∧ I n h'
  | 0, a, h, _, e, hi => by
    have : a = n := by omega
    subst this
    exact ⟨h, rfl, hi⟩
  | d + 1, a, h, l, e, hi => by
    obtain ⟨h1, e1, i1⟩ := hs a h l (by omega) hi
    obtain ⟨h2, e2, i2⟩ := lp_cnt I lo n hs d (a + 1) h1 (by omega) (by omega) i1
    exact ⟨h2, by rw [lp_inl e1]; exact e2, i2⟩
def plS (q k : Nat) : Prop := (q = 0 ∧ (16 ≤ k ∧ k ≤ 20 ∨ k = 43)) ∨ (q = 3 ∧ k < 2) ∨ (q = 4 ∧ 2 ≤ k ∧ k < 4) ∨ (q = 14 ∧ 3 ≤ k ∧ k < 6) ∨ ((q = 9 ∨ q = 10) ∧ 6 ≤ k ∧ k < 12)
section PLAIN
variable {m : Hp}
theorem plain_dr : ∃ m', f12_plain m = some m' ∧ m'.2 = m.2 ∧ drM D0 m' ∧ ∀ q k, ¬ plS q k → m'.1 q k = m.1 q k := by
  obtain ⟨M, eM⟩ : ∃ M, M = wI (wI (wI (wI (wI (wI m 0 16 0) 0 17 0) 0 18 0) 0 19 0) 0 20 0) 0 43 0 := ⟨_, rfl⟩
  have oM : ∀ q k, ¬ (q = 0 ∧ (16 ≤ k ∧ k ≤ 20 ∨ k = 43)) → M.1 q k = m.1 q k := fun q k n => by rw [eM, wI_o (by omega), wI_o (by omega), wI_o (by omega), wI_o (by omega), wI_o (by omega), wI_o (by omega)]
  have zM : M.1 0 16 = 0 ∧ M.1 0 17 = 0 ∧ M.1 0 18 = 0 ∧ M.1 0 19 = 0 ∧ M.1 0 20 = 0 ∧ M.1 0 43 = 0 := by
    refine ⟨?_, ?_, ?_, ?_, ?_, ?_⟩
    · rw [eM, wI_o (by omega), wI_o (by omega), wI_o (by omega), wI_o (by omega), wI_o (by omega), wI_s]
    · rw [eM, wI_o (by omega), wI_o (by omega), wI_o (by omega), wI_o (by omega), wI_s]
    · rw [eM, wI_o (by omega), wI_o (by omega), wI_o (by omega), wI_s]
    · rw [eM, wI_o (by omega), wI_o (by omega), wI_s]
    · rw [eM, wI_o (by omega), wI_s]
    · rw [eM, wI_s]
  obtain ⟨A, eA, iA1, iA2, iA3⟩ := lp_cnt (f := fun z : Int32 × Hp => f12_plain_32_s z.1 z.2) (fun i h => h.2 = m.2 ∧ (∀ k, k < i → h.1 3 k = 0 ∧ h.1 4 (2 + k) = 0) ∧ ∀ q k, ¬ ((q = 3 ∧ k < 2) ∨ (q = 4 ∧ 2 ≤ k ∧ k < 4)) → h.1 q k = M.1 q k) 0 2 (fun i h _ hi ⟨a1, a2, a3⟩ => by
    have g : ¬ (2 : Int32) ≤ nI i := by rw [lit]; exact nI_ge hi (by omega)
    have e2 : (2 : Int32) + nI i = nI (2 + i) := by rw [lit, nI_add]
    refine ⟨wI (wI h 3 i 0) 4 (2 + i) 0, ?_, a1, fun k hk => ?_, fun q k n => ?_⟩
    · simp only [f12_plain_32_s, g, if_false, gd, inb_t hi (by omega), e2, inb_t (show 2 + i < 4 by omega) (by omega), ix_nI (show i < 2 ^ 31 by omega), ix_nI (show 2 + i < 2 ^ 31 by omega), if_true, lt, nI_1]
    · by_cases z : k = i
      · subst z; exact ⟨(wI_o (by omega)).trans wI_s, wI_s⟩
      · exact ⟨(wI_o (by omega)).trans ((wI_o (by omega)).trans (a2 k (by omega)).1), (wI_o (by omega)).trans ((wI_o (by omega)).trans (a2 k (by omega)).2)⟩
    · rw [wI_o (by omega), wI_o (by omega)]; exact a3 q k n) 2 0 M (Nat.le_refl 0) rfl ⟨by rw [eM]; rfl, fun k hk => absurd hk (Nat.not_lt_zero k), fun q k _ => rfl⟩
  obtain ⟨B, eB, iB1, iB2, iB3⟩ := lp_cnt (f := fun z : Int32 × Hp => f12_plain_61_s z.1 z.2) (fun i h => h.2 = m.2 ∧ (∀ k, 3 ≤ k → k < i → h.1 14 k = 0) ∧ ∀ q k, ¬ (q = 14 ∧ 3 ≤ k ∧ k < 6) → h.1 q k = A.1 q k) 3 6 (fun i h i3 hi ⟨a1, a2, a3⟩ => by
    have g : ¬ (6 : Int32) ≤ nI i := by rw [lit]; exact nI_ge hi (by omega)
    refine ⟨wI h 14 i 0, ?_, a1, fun k h3 hk => ?_, fun q k n => ?_⟩
    · simp only [f12_plain_61_s, g, if_false, gd, inb_t hi (by omega), ix_nI (show i < 2 ^ 31 by omega), if_true, lt, nI_1]
    · by_cases z : k = i
      · subst z; exact wI_s
      · exact (wI_o (by omega)).trans (a2 k h3 (by omega))
    · rw [wI_o (by omega)]; exact a3 q k n) 3 3 A (Nat.le_refl 3) rfl ⟨iA1, fun k _ hk => by omega, fun q k _ => rfl⟩
  obtain ⟨C, eC, iC1, iC2, iC3⟩ := lp_cnt (f := fun z : Int32 × Hp => f12_plain_83_s z.1 z.2) (fun i h => h.2 = m.2 ∧ (∀ k, 6 ≤ k → k < i → h.1 9 k = 0 ∧ h.1 10 k = 0) ∧ ∀ q k, ¬ ((q = 9 ∨ q = 10) ∧ 6 ≤ k ∧ k < 12) → h.1 q k = B.1 q k) 6 12 (fun i h i3 hi ⟨a1, a2, a3⟩ => by
    have g : ¬ (12 : Int32) ≤ nI i := by rw [lit]; exact nI_ge hi (by omega)
    refine ⟨wI (wI h 9 i 0) 10 i 0, ?_, a1, fun k h3 hk => ?_, fun q k n => ?_⟩
    · simp only [f12_plain_83_s, g, if_false, gd, inb_t hi (by omega), ix_nI (show i < 2 ^ 31 by omega), if_true, lt, nI_1]
    · by_cases z : k = i
      · subst z; exact ⟨(wI_o (by omega)).trans wI_s, wI_s⟩
      · exact ⟨(wI_o (by omega)).trans ((wI_o (by omega)).trans (a2 k h3 (by omega)).1), (wI_o (by omega)).trans ((wI_o (by omega)).trans (a2 k h3 (by omega)).2)⟩
    · rw [wI_o (by omega), wI_o (by omega)]; exact a3 q k n) 6 6 B (Nat.le_refl 6) rfl ⟨iB1, fun k _ hk => by omega, fun q k _ => rfl⟩
  have c3 : f12_plain_80 B = some C := by
    have e : f12_plain_80 B = lp (fun z : Int32 × Hp => f12_plain_83_s z.1 z.2) (nI 6, B) := rfl
    rw [e, eC]
    refine lp_inr (o := some C) ?_
    have g : (12 : Int32) ≤ nI 12 := by decide
    simp only [f12_plain_83_s, g, if_true, Option.map_some]
  have c2 : f12_plain_59 A = some C := by
    have e : f12_plain_59 A = lp (fun z : Int32 × Hp => f12_plain_61_s z.1 z.2) (nI 3, A) := rfl
    rw [e, eB]
    refine lp_inr (o := some C) ?_
    have g : (6 : Int32) ≤ nI 6 := by decide
    simp only [f12_plain_61_s, g, if_true, c3]
  have c1 : f12_plain_32 0 M = some C := by
    have e : f12_plain_32 0 M = lp (fun z : Int32 × Hp => f12_plain_32_s z.1 z.2) (nI 0, M) := rfl
    rw [e, eA]
    refine lp_inr (o := some C) ?_
    have g : (2 : Int32) ≤ nI 2 := by decide
    simp only [f12_plain_32_s, g, if_true, c2]
  have oC : ∀ q k, ¬ ((q = 3 ∧ k < 2) ∨ (q = 4 ∧ 2 ≤ k ∧ k < 4) ∨ (q = 14 ∧ 3 ≤ k ∧ k < 6) ∨ ((q = 9 ∨ q = 10) ∧ 6 ≤ k ∧ k < 12)) → C.1 q k = M.1 q k := fun q k n => by
    rw [iC3 q k (by omega), iB3 q k (by omega), iA3 q k (by omega)]
  have o34 : ∀ q k, q = 3 ∨ q = 4 → C.1 q k = A.1 q k := fun q k n => by rw [iC3 q k (by omega), iB3 q k (by omega)]
  obtain ⟨z1, z2, z3, z4, z5, z6⟩ := zM
  refine ⟨C, ?_, iC1, ⟨⟨?_, ?_, ?_, ?_, ?_, ?_, ?_, ?_, ?_, ?_⟩, fun i hi => absurd hi (Nat.not_lt_zero i), fun i _ hi => ?_, fun g hg => absurd hg (Nat.not_lt_zero g), fun i hi => absurd hi (Nat.not_lt_zero i), fun l hl => ⟨?_, fun z => absurd z (Nat.not_lt_zero _)⟩⟩, fun q k n => ?_⟩
  · simp only [f12_plain, lt, ← eM, c1]
  · rw [oC _ _ (by omega)]; exact z1
  · rw [oC _ _ (by omega)]; exact z2
  · rw [oC _ _ (by omega)]; exact z3
  · rw [oC _ _ (by omega)]; exact z4
  · rw [oC _ _ (by omega)]; exact z5
  · rw [oC _ _ (by omega)]; exact z6
  · rw [o34 _ _ (by omega)]; exact (iA2 0 (by omega)).1
  · rw [o34 _ _ (by omega)]; exact (iA2 1 (by omega)).1
  · rw [o34 _ _ (by omega)]; exact (iA2 0 (by omega)).2
  · rw [o34 _ _ (by omega)]; exact (iA2 1 (by omega)).2
  · exact iC2 _ (by omega) (by omega)
  · rw [iC3 _ _ (by omega), iB2 _ (by omega) (by omega), if_neg (show ¬ D0 42 l < D0 43 l from Nat.not_lt_zero _)]
  · unfold plS at n
    rw [oC q k (by omega), oM q k (by omega)]
end PLAIN
