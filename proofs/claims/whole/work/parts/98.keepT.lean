/-! A text is taken: the reference's side. -/
theorem lnM_half : ∀ q, q < 20 → 4 ≤ q → lnM q = 2 * (lnM q / 2) ∧ lnM q / 2 ≤ 64 := by decide +kernel
def KP (L : Nat) (m0 m : Hp) : Prop := m.2 = m0.2 ∧ (∀ q, 4 ≤ q → q < L → ∀ k, k < lnM q / 2 → m.1 q k = m0.1 q (lnM q / 2 + k)) ∧ ∀ q k, ¬ (4 ≤ q ∧ q < L ∧ k < lnM q / 2) → m.1 q k = m0.1 q k
theorem KP.step {L : Nat} {m0 m : Hp} (h : KP L m0 m) (h4 : 4 ≤ L) (h19 : L < 20) {v : Int32} (hv : v = nI (lnM L / 2)) : ∃ m', f12_copies L v m = some m' ∧ KP (L + 1) m0 m' := by
  subst hv
  obtain ⟨h1, h2, h3⟩ := h
  obtain ⟨l1, l2⟩ := lnM_half L h19 h4
  obtain ⟨N, eN⟩ : ∃ N, N = lnM L / 2 := ⟨_, rfl⟩
  rw [← eN] at l1 l2 ⊢
  obtain ⟨A, eA, a1, a2, a3⟩ := lp_cnt (f := fun z : Int32 × Hp => f12_copies_2_s L (nI N) z.1 z.2) (fun i h => h.2 = m0.2 ∧ (∀ k, k < i → h.1 L k = m0.1 L (N + k)) ∧ ∀ q k, ¬ (q = L ∧ k < i) → h.1 q k = m.1 q k) 0 N (fun i h _ hi ⟨a1, a2, a3⟩ => by
    have g : ¬ nI N ≤ nI i := nI_ge hi (by omega)
    have e2 : nI N + nI i = nI (N + i) := nI_add _ _
    have v : h.1 L (N + i) = m0.1 L (N + i) := by rw [a3 _ _ (by omega), h3 _ _ (by omega)]
    refine ⟨wI h L i (m0.1 L (N + i)), ?_, a1, fun k hk => ?_, fun q k n => ?_⟩
    · simp only [f12_copies_2_s, g, if_false, gd, e2, l1, inb_t (show i < 2 * N by omega) (by omega), inb_t (show N + i < 2 * N by omega) (by omega), ix_nI (show i < 2 ^ 31 by omega), ix_nI (show N + i < 2 ^ 31 by omega), if_true, lt, nI_1, v]
    · by_cases z : k = i
      · subst z; exact wI_s
      · exact (wI_o (by omega)).trans (a2 k (by omega))
    · rw [wI_o (by omega)]; exact a3 q k (by omega)) N 0 m (Nat.zero_le _) (Nat.zero_add N) ⟨h1, fun k hk => absurd hk (Nat.not_lt_zero k), fun q k _ => rfl⟩
  refine ⟨A, ?_, a1, fun q q4 qL k hk => ?_, fun q k n => ?_⟩
  · have e : f12_copies L (nI N) m = lp (fun z : Int32 × Hp => f12_copies_2_s L (nI N) z.1 z.2) (nI 0, m) := rfl
    rw [e, eA]
    refine lp_inr (o := some A) ?_
    have g : nI N ≤ nI N := nI_le (Nat.le_refl _) (by omega)
    simp only [f12_copies_2_s, g, if_true, Option.map_some]
  · by_cases z : q = L
    · subst z
      rw [← eN] at hk ⊢
      exact a2 k hk
    · rw [a3 _ _ (by omega)]; exact h2 q q4 (by omega) k hk
  · have : ¬ (q = L ∧ k < N) := fun z => n ⟨by omega, by omega, by rw [z.1, ← eN]; exact z.2⟩
    rw [a3 q k this]
    exact h3 q k (fun z => n ⟨z.1, by omega, z.2.2⟩)
/-- what begin does behind it -/
def bgS (q k : Nat) : Prop := (q = 0 ∧ (58 ≤ k ∧ k ≤ 62 ∨ k = 65 ∨ k = 66 ∨ k = 69 ∨ k = 71)) ∨ (24 ≤ q ∧ q ≤ 31)
theorem begin_m {m : Hp} : ∃ m', f12_begin m = some m' ∧ (∀ k, k < 6 → m'.1 24 k = m.1 6 k ∧ m'.1 25 k = 0 ∧ m'.1 26 k = 0 ∧ m'.1 27 k = 0 ∧ m'.1 28 k = 0 ∧ m'.1 29 k = m.1 9 k) ∧ (m'.1 30 0 = 0 ∧ m'.1 31 0 = 0 ∧ m'.1 0 65 = 0 ∧ m'.1 0 66 = -1 ∧ m'.1 0 69 = 0 ∧ m'.1 0 71 = 0) ∧ m'.2.1 0 57 = (m.1 4 1).toInt64 ∧ ∀ q k, ¬ bgS q k → m'.1 q k = m.1 q k := by
  obtain ⟨A, eA, a2, a3⟩ := lp_cnt (f := fun z : Int32 × Hp => f12_begin_2_s z.1 z.2) (fun i h => (∀ k, k < i → h.1 24 k = m.1 6 k ∧ h.1 25 k = 0 ∧ h.1 26 k = 0 ∧ h.1 27 k = 0 ∧ h.1 28 k = 0 ∧ h.1 29 k = m.1 9 k) ∧ ∀ q k, ¬ (24 ≤ q ∧ q ≤ 29) → h.1 q k = m.1 q k) 0 6 (fun i h _ hi ⟨a2, a3⟩ => by
    have g : ¬ (6 : Int32) ≤ nI i := by rw [lit]; exact nI_ge hi (by omega)
    obtain ⟨H, eH⟩ : ∃ H, H = wI (wI (wI (wI (wI h 24 i (m.1 6 i)) 25 i 0) 26 i 0) 27 i 0) 28 i 0 := ⟨_, rfl⟩
    have v : h.1 6 i = m.1 6 i := a3 _ _ (by omega)
    have v9 : H.1 9 i = m.1 9 i := by rw [eH, wI_o (by omega), wI_o (by omega), wI_o (by omega), wI_o (by omega), wI_o (by omega)]; exact a3 _ _ (by omega)
    refine ⟨wI H 29 i (m.1 9 i), ?_, fun k hk => ?_, fun q k n => ?_⟩
    · have eH' : wI (wI (wI (wI (wI h 24 i (m.1 6 i)) 25 i 0) 26 i 0) 27 i 0) 28 i 0 = H := eH.symm
      simp only [f12_begin_2_s, g, if_false, gd, inb_t (show i < 12 by omega) (by omega), ix_nI (show i < 2 ^ 31 by omega), if_true, lt, nI_1, v, eH', v9]
    · by_cases z : k = i
      · subst z
        refine ⟨?_, ?_, ?_, ?_, ?_, wI_s⟩
        · rw [wI_o (by omega), eH, wI_o (by omega), wI_o (by omega), wI_o (by omega), wI_o (by omega), wI_s]
        · rw [wI_o (by omega), eH, wI_o (by omega), wI_o (by omega), wI_o (by omega), wI_s]
        · rw [wI_o (by omega), eH, wI_o (by omega), wI_o (by omega), wI_s]
        · rw [wI_o (by omega), eH, wI_o (by omega), wI_s]
        · rw [wI_o (by omega), eH, wI_s]
      · have o : ∀ q, (wI H 29 i (m.1 9 i)).1 q k = h.1 q k := fun q => by rw [wI_o (by omega), eH, wI_o (by omega), wI_o (by omega), wI_o (by omega), wI_o (by omega), wI_o (by omega)]
        rw [o, o, o, o, o, o]
        exact a2 k (by omega)
    · rw [wI_o (by omega), eH, wI_o (by omega), wI_o (by omega), wI_o (by omega), wI_o (by omega), wI_o (by omega)]
      exact a3 q k n) 6 0 m (Nat.zero_le _) rfl ⟨fun k hk => absurd hk (Nat.not_lt_zero k), fun q k _ => rfl⟩
  obtain ⟨B, eB⟩ : ∃ B, B = wI (wI A 30 0 0) 31 0 0 := ⟨_, rfl⟩
  have vB : B.1 4 1 = m.1 4 1 := by rw [eB, wI_o (by omega), wI_o (by omega)]; exact a3 _ _ (by omega)
  obtain ⟨C, eC⟩ : ∃ C, C = wI (wI (wI (wI (wI (wJ B 0 57 (m.1 4 1).toInt64) 0 58 0) 0 59 0) 0 60 0) 0 61 0) 0 62 (-1) := ⟨_, rfl⟩
  have oC : ∀ q k, ¬ (q = 0 ∧ (58 ≤ k ∧ k ≤ 62)) → C.1 q k = B.1 q k := fun q k n => by rw [eC, wI_o (by omega), wI_o (by omega), wI_o (by omega), wI_o (by omega), wI_o (by omega)]; rfl
  obtain ⟨E, eE⟩ : ∃ E, E = wI (wI (wI (wI C 0 65 0) 0 66 (-1)) 0 69 0) 0 71 0 := ⟨_, rfl⟩
  have oE : ∀ q k, ¬ (q = 0 ∧ (k = 65 ∨ k = 66 ∨ k = 69 ∨ k = 71)) → E.1 q k = C.1 q k := fun q k n => by rw [eE, wI_o (by omega), wI_o (by omega), wI_o (by omega), wI_o (by omega)]
  have oB : ∀ q k, ¬ (q = 30 ∨ q = 31) → B.1 q k = A.1 q k := fun q k n => by rw [eB, wI_o (by omega), wI_o (by omega)]
  have key : f12_begin_66 A = some E := by
    have i0 : ix (0 : Int32) = 0 := by decide
    have i1 : ix (1 : Int32) = 1 := by decide
    have b0 : inb (0 : Int32) 2 = true := by decide
    have b1 : inb (1 : Int32) 4 = true := by decide
    have eB' : wI (wI A 30 0 0) 31 0 0 = B := eB.symm
    have eC' : wI (wI (wI (wI (wI (wJ B 0 57 (m.1 4 1).toInt64) 0 58 0) 0 59 0) 0 60 0) 0 61 0) 0 62 (-1) = C := eC.symm
    have eE' : wI (wI (wI (wI C 0 65 0) 0 66 (-1)) 0 69 0) 0 71 0 = E := eE.symm
    simp only [f12_begin_66, gd, i0, i1, b0, b1, if_true, lt, eB', vB, f12_plainTried, eC', Option.bind_some, eE']
  refine ⟨E, ?_, fun k hk => ?_, ⟨?_, ?_, ?_, ?_, ?_, ?_⟩, ?_, fun q k n => ?_⟩
  · have e : f12_begin m = lp (fun z : Int32 × Hp => f12_begin_2_s z.1 z.2) (nI 0, m) := rfl
    rw [e, eA]
    refine lp_inr (o := some E) ?_
    have g : (6 : Int32) ≤ nI 6 := by decide
    simp only [f12_begin_2_s, g, if_true, key]
  · have o : ∀ q, 24 ≤ q → q ≤ 29 → E.1 q k = A.1 q k := fun q h1 h2 => by rw [oE _ _ (by omega), oC _ _ (by omega), oB _ _ (by omega)]
    rw [o 24 (by omega) (by omega), o 25 (by omega) (by omega), o 26 (by omega) (by omega), o 27 (by omega) (by omega), o 28 (by omega) (by omega), o 29 (by omega) (by omega)]
    exact a2 k hk
  · rw [oE _ _ (by omega), oC _ _ (by omega), eB, wI_o (by omega), wI_s]
  · rw [oE _ _ (by omega), oC _ _ (by omega), eB, wI_s]
  · rw [eE, wI_o (by omega), wI_o (by omega), wI_o (by omega), wI_s]
  · rw [eE, wI_o (by omega), wI_o (by omega), wI_s]
  · rw [eE, wI_o (by omega), wI_s]
  · rw [eE, wI_s]
  · rw [eE, eC]; exact wJ_s
  · unfold bgS at n
    rw [oE _ _ (by omega), oC _ _ (by omega), oB _ _ (by omega), a3 _ _ (by omega)]
theorem keepT_m {m : Hp} (hb : ∀ k, k < 3 → bz (m.1 14 (3 + k)) = true) : ∃ m', f12_keepText m = some m' ∧ (m'.1 0 12 = m.1 0 16 ∧ m'.1 0 13 = m.1 0 18 ∧ m'.1 0 14 = m.1 0 19 ∧ m'.1 0 15 = m.1 0 20) ∧ (∀ q, 4 ≤ q → q < 20 → ∀ k, k < lnM q / 2 → m'.1 q k = m.1 q (lnM q / 2 + k)) ∧ (∀ k, k < 6 → m'.1 24 k = m.1 6 (6 + k) ∧ m'.1 25 k = 0 ∧ m'.1 26 k = 0 ∧ m'.1 27 k = 0 ∧ m'.1 28 k = 0 ∧ m'.1 29 k = m.1 9 (6 + k)) ∧ (m'.1 30 0 = 0 ∧ m'.1 31 0 = 0 ∧ m'.1 0 65 = 0 ∧ m'.1 0 66 = -1 ∧ m'.1 0 69 = 0 ∧ m'.1 0 71 = 0) ∧ m'.2.1 0 57 = (m.1 4 3).toInt64 ∧ ∀ q k, (q = 0 ∧ k ≤ 11) ∨ q = 1 ∨ q = 2 → m'.1 q k = m.1 q k := by
  obtain ⟨M, eM⟩ : ∃ M, M = wI (wI (wI (wI m 0 12 (m.1 0 16)) 0 13 (m.1 0 18)) 0 14 (m.1 0 19)) 0 15 (m.1 0 20) := ⟨_, rfl⟩
  have oM : ∀ q k, ¬ (q = 0 ∧ 12 ≤ k ∧ k ≤ 15) → M.1 q k = m.1 q k := fun q k n => by rw [eM, wI_o (by omega), wI_o (by omega), wI_o (by omega), wI_o (by omega)]
  have k4 : KP 4 M M := ⟨rfl, fun q h1 h2 => by omega, fun q k _ => rfl⟩
  obtain ⟨h5, e5, k5⟩ := k4.step (v := 2) (by omega) (by omega) (by decide +kernel)
  obtain ⟨h6, e6, k6⟩ := k5.step (v := 6) (by omega) (by omega) (by decide +kernel)
  obtain ⟨h7, e7, k7⟩ := k6.step (v := 6) (by omega) (by omega) (by decide +kernel)
  obtain ⟨h8, e8, k8⟩ := k7.step (v := 6) (by omega) (by omega) (by decide +kernel)
  obtain ⟨h9, e9, k9⟩ := k8.step (v := 48) (by omega) (by omega) (by decide +kernel)
  obtain ⟨h10, e10, k10⟩ := k9.step (v := 6) (by omega) (by omega) (by decide +kernel)
  obtain ⟨h11, e11, k11⟩ := k10.step (v := 6) (by omega) (by omega) (by decide +kernel)
  obtain ⟨h12, e12, k12⟩ := k11.step (v := 5) (by omega) (by omega) (by decide +kernel)
  obtain ⟨h13, e13, k13⟩ := k12.step (v := 5) (by omega) (by omega) (by decide +kernel)
  obtain ⟨h14, e14, k14⟩ := k13.step (v := 5) (by omega) (by omega) (by decide +kernel)
  have n14 : lnM 14 / 2 = 3 := by decide +kernel
  obtain ⟨h15, e15, a1, a2, a3⟩ := lp_cnt (f := fun z : Int32 × Hp => f12_keepText_120_s z.1 z.2) (fun i h => h.2 = M.2 ∧ (∀ k, k < i → h.1 14 k = M.1 14 (3 + k)) ∧ ∀ q k, ¬ (q = 14 ∧ k < i) → h.1 q k = h14.1 q k) 0 3 (fun i h _ hi ⟨a1, a2, a3⟩ => by
    have g : ¬ (3 : Int32) ≤ nI i := by rw [lit]; exact nI_ge hi (by omega)
    have e2 : (3 : Int32) + nI i = nI (3 + i) := by rw [lit, nI_add]
    have v : h.1 14 (3 + i) = M.1 14 (3 + i) := by rw [a3 _ _ (by omega), k14.2.2 _ _ (by omega)]
    have vb : bz (M.1 14 (3 + i)) = true := by rw [oM _ _ (by omega)]; exact hb i hi
    refine ⟨wI h 14 i (M.1 14 (3 + i)), ?_, a1, fun k hk => ?_, fun q k n => ?_⟩
    · simp only [f12_keepText_120_s, g, if_false, gd, e2, inb_t (show i < 6 by omega) (by omega), inb_t (show 3 + i < 6 by omega) (by omega), ix_nI (show i < 2 ^ 31 by omega), ix_nI (show 3 + i < 2 ^ 31 by omega), if_true, lt, nI_1, v, vb]
    · by_cases z : k = i
      · subst z; exact wI_s
      · exact (wI_o (by omega)).trans (a2 k (by omega))
    · rw [wI_o (by omega)]; exact a3 q k (by omega)) 3 0 h14 (Nat.zero_le _) rfl ⟨k14.1, fun k hk => absurd hk (Nat.not_lt_zero k), fun q k _ => rfl⟩
  have k15 : KP 15 M h15 := ⟨a1, fun q q4 qL k hk => by
    by_cases z : q = 14
    · subst z; rw [n14] at hk ⊢; exact a2 k hk
    · rw [a3 _ _ (by omega)]; exact k14.2.1 q q4 (by omega) k hk, fun q k n => by
    have : ¬ (q = 14 ∧ k < 3) := fun z => n ⟨by omega, by omega, by rw [z.1, n14]; exact z.2⟩
    rw [a3 q k this]
    exact k14.2.2 q k (fun z => n ⟨z.1, by omega, z.2.2⟩)⟩
  obtain ⟨h16, e16, k16⟩ := k15.step (v := 3) (by omega) (by omega) (by decide +kernel)
  obtain ⟨h17, e17, k17⟩ := k16.step (v := 3) (by omega) (by omega) (by decide +kernel)
  obtain ⟨h18, e18, k18⟩ := k17.step (v := 64) (by omega) (by omega) (by decide +kernel)
  obtain ⟨h19, e19, k19⟩ := k18.step (v := 64) (by omega) (by omega) (by decide +kernel)
  obtain ⟨h20, e20, k20⟩ := k19.step (v := 64) (by omega) (by omega) (by decide +kernel)
  obtain ⟨h21, e21, b1, b2, b3, b4⟩ := begin_m (m := h20)
  have c145 : f12_keepText_145 h15 = some h21 := by
    simp only [f12_keepText_145, e16, e17, e18, e19, e20, e21, Option.bind_some]
  have c120 : f12_keepText_120 0 h14 = some h21 := by
    have e : f12_keepText_120 0 h14 = lp (fun z : Int32 × Hp => f12_keepText_120_s z.1 z.2) (nI 0, h14) := rfl
    rw [e, e15]
    refine lp_inr (o := some h21) ?_
    have g : (3 : Int32) ≤ nI 3 := by decide
    simp only [f12_keepText_120_s, g, if_true, c145]
  have q20 : ∀ q, 4 ≤ q → q < 20 → ∀ k, k < lnM q / 2 → h20.1 q k = m.1 q (lnM q / 2 + k) := fun q q4 q9 k hk => by
    rw [k20.2.1 q q4 q9 k hk, oM _ _ (by omega)]
  have l4 : lnM 4 / 2 = 2 := by decide +kernel
  have l6 : lnM 6 / 2 = 6 := by decide +kernel
  have l9 : lnM 9 / 2 = 6 := by decide +kernel
  have z0 : ∀ k, h20.1 0 k = M.1 0 k := fun k => k20.2.2 _ _ (by omega)
  refine ⟨h21, ?_, ⟨?_, ?_, ?_, ?_⟩, fun q q4 q9 k hk => ?_, fun k hk => ?_, b2, ?_, fun q k z => ?_⟩
  · have m1 : (wI m 0 12 (m.1 0 16)).1 0 18 = m.1 0 18 := wI_o (by omega)
    have m2 : (wI (wI m 0 12 (m.1 0 16)) 0 13 (m.1 0 18)).1 0 19 = m.1 0 19 := (wI_o (by omega)).trans (wI_o (by omega))
    have m3 : (wI (wI (wI m 0 12 (m.1 0 16)) 0 13 (m.1 0 18)) 0 14 (m.1 0 19)).1 0 20 = m.1 0 20 := (wI_o (by omega)).trans ((wI_o (by omega)).trans (wI_o (by omega)))
    have eM' : wI (wI (wI (wI m 0 12 (m.1 0 16)) 0 13 (m.1 0 18)) 0 14 (m.1 0 19)) 0 15 (m.1 0 20) = M := eM.symm
    simp only [f12_keepText, lt, m1, m2, m3, eM', e5, e6, e7, e8, e9, e10, e11, e12, e13, e14, Option.bind_some, c120]
  · rw [b4 _ _ (by unfold bgS; omega), z0, eM, wI_o (by omega), wI_o (by omega), wI_o (by omega), wI_s]
  · rw [b4 _ _ (by unfold bgS; omega), z0, eM, wI_o (by omega), wI_o (by omega), wI_s]
  · rw [b4 _ _ (by unfold bgS; omega), z0, eM, wI_o (by omega), wI_s]
  · rw [b4 _ _ (by unfold bgS; omega), z0, eM, wI_s]
  · rw [b4 _ _ (by unfold bgS; omega)]; exact q20 q q4 q9 k hk
  · have g6 := q20 6 (by omega) (by omega) k (by rw [l6]; exact hk)
    have g9 := q20 9 (by omega) (by omega) k (by rw [l9]; exact hk)
    rw [l6] at g6
    rw [l9] at g9
    rw [← g6, ← g9]
    exact b1 k hk
  · have g4 := q20 4 (by omega) (by omega) 1 (by rw [l4]; omega)
    rw [l4] at g4
    rw [b3, g4]
  · rw [b4 _ _ (by unfold bgS; omega), k20.2.2 _ _ (by omega), oM _ _ (by omega)]
