/-! A change is noted. -/
def dd (n : Nat) : Nat := if n = 20 then 1 else 0
theorem dd_le {n : Nat} (h : n ≤ 20) : n - dd n ≤ 19 ∧ dd n ≤ 1 ∧ (n - dd n) + dd n = n := by
  unfold dd
  split <;> omega
theorem shift_ex {m : Hp} : ∃ m', f12_remember_11 0 m = f12_remember_39 m' ∧ (∀ q k, q ≠ 36 → m'.1 q k = m.1 q k) ∧ m'.2 = m.2 ∧ ∀ k, k < 342 → m'.1 36 k = m.1 36 (k + 18) := by
  have key : ∀ n, n ≤ 342 → ∃ m', f12_remember_11 0 m = lp (fun z : Int32 × Hp => f12_remember_11_s z.1 z.2) (nI n, m') ∧ (∀ q k, q ≠ 36 → m'.1 q k = m.1 q k) ∧ m'.2 = m.2 ∧ (∀ k, k < n → m'.1 36 k = m.1 36 (k + 18)) ∧ ∀ k, n ≤ k → m'.1 36 k = m.1 36 k := by
    intro n
    induction n with
    | zero => intro _; exact ⟨m, rfl, fun _ _ _ => rfl, rfl, fun k hk => by omega, fun _ _ => rfl⟩
    | succ n ih =>
      intro hn
      obtain ⟨c1, e, o, e2, hz, hy⟩ := ih (by omega)
      refine ⟨wI c1 36 n (c1.1 36 (n + 18)), ?_, fun q k hq => ?_, e2, fun k hk => ?_, fun k hk => ?_⟩
      · rw [e]
        refine lp_inl ?_
        have g : ¬ (342 : Int32) ≤ nI n := by rw [lit]; exact nI_ge (by omega) (by omega)
        have a : (nI n + 18 : Int32) = nI (n + 18) := by rw [lit, nI_add]
        simp only [f12_remember_11_s, g, if_false, gd, a, inb_t (show n + 18 < 360 by omega) (by omega), inb_t (show n < 360 by omega) (by omega), if_true, ix_nI (show n < 2 ^ 31 by omega), ix_nI (show n + 18 < 2 ^ 31 by omega), lt, nI_1]
      · rw [wI_o (by omega)]; exact o q k hq
      · by_cases q : k = n
        · subst q; rw [wI_s]; exact hy _ (by omega)
        · rw [wI_o (by omega)]; exact hz k (by omega)
      · rw [wI_o (by omega)]; exact hy k (by omega)
  obtain ⟨m1, e, o, e2, hz, -⟩ := key 342 (Nat.le_refl _)
  refine ⟨m1, ?_, o, e2, hz⟩
  rw [e]
  refine lp_inr ?_
  simp only [f12_remember_11_s, lit, nI_le (Nat.le_refl 342) (show 342 < 2 ^ 31 by omega), if_true]
theorem rem_49 {m : Hp} {n : Nat} (h69 : m.1 0 69 = nI n) (hn : n ≤ 19) : ∃ m', f12_remember_49 m = some m' ∧ m'.1 0 69 = nI (n + 1) ∧ (∀ q k, ¬ (q = 36 ∧ 18 * n ≤ k ∧ k < 18 * n + 18 ∨ q = 0 ∧ k = 69) → m'.1 q k = m.1 q k) ∧ m'.2 = m.2 ∧ ∀ b, b < 6 → m'.1 36 (18 * n + b) = m.1 24 b ∧ m'.1 36 (18 * n + 6 + b) = (if m.1 28 b = 0 then 0 else 1) ∧ m'.1 36 (18 * n + 12 + b) = m.1 29 b := by
  obtain ⟨m1, e, o, e2, hb⟩ := put_ex (h := m) (p := 36) (ln := 360) (i := 18 * n) rfl (by omega) (by omega) (by omega)
  have h1 : m1.1 0 69 = nI n := (o _ _ (by omega)).trans h69
  refine ⟨wI m1 0 69 (nI (n + 1)), ?_, by rw [wI_s], fun q k h => ?_, e2, fun b hb6 => ?_⟩
  · simp only [f12_remember_49, h69, show (18 * nI n : Int32) = nI (18 * n) from by rw [lit, pk_mul], e, Option.bind_some, lt, h1, nI_1]
  · rw [wI_o (by omega)]; exact o q k (by omega)
  · rw [wI_o (by omega), wI_o (by omega), wI_o (by omega)]; exact hb b hb6
theorem rem_ex {m : Hp} {n : Nat} (h69 : m.1 0 69 = nI n) (hn : n ≤ 20) : ∃ m', f12_remember m = some m' ∧ m'.1 0 69 = nI (n - dd n + 1) ∧ (∀ q k, ¬ (q = 36 ∨ q = 0 ∧ k = 69) → m'.1 q k = m.1 q k) ∧ m'.2 = m.2 ∧ (∀ j k, j < n - dd n → k < 18 → m'.1 36 (18 * j + k) = m.1 36 (18 * (j + dd n) + k)) ∧ ∀ b, b < 6 → m'.1 36 (18 * (n - dd n) + b) = m.1 24 b ∧ m'.1 36 (18 * (n - dd n) + 6 + b) = (if m.1 28 b = 0 then 0 else 1) ∧ m'.1 36 (18 * (n - dd n) + 12 + b) = m.1 29 b := by
  by_cases q : n = 20
  · subst q
    obtain ⟨m1, e, o, e2, hz⟩ := shift_ex (m := m)
    have h1 : m1.1 0 69 = nI 20 := (o _ _ (by omega)).trans h69
    obtain ⟨m2, f, g1, g2, g3, g4⟩ := rem_49 (m := wI m1 0 69 (nI 19)) (n := 19) (by rw [wI_s]) (by omega)
    refine ⟨m2, ?_, g1, fun q k h => ?_, g3.trans e2, fun j k hj hk => ?_, fun b hb => ?_⟩
    · simp only [f12_remember, h69, show (nI 20 : Int32) = 20 from rfl, if_true, e, f12_remember_39, lt, h1, show (20 - 1 : Int32) = nI 19 from by decide, f]
    · rw [g2 q k (by omega), wI_o (by omega)]; exact o q k (by omega)
    · have hj : j < 19 := hj
      show _ = m.1 36 (18 * (j + 1) + k)
      rw [g2 36 _ (by omega), wI_o (by omega), hz _ (by omega), show 18 * j + k + 18 = 18 * (j + 1) + k by omega]
    · obtain ⟨a, b', d⟩ := g4 b hb
      rw [wI_o (by omega)] at a
      rw [wI_o (by omega)] at b'
      rw [wI_o (by omega)] at d
      rw [o 24 b (by omega)] at a
      rw [o 28 b (by omega)] at b'
      rw [o 29 b (by omega)] at d
      exact ⟨a, b', d⟩
  · have hd : dd n = 0 := by unfold dd; rw [if_neg q]
    obtain ⟨m2, f, g1, g2, g3, g4⟩ := rem_49 h69 (show n ≤ 19 by omega)
    have hne : ¬ nI n = (20 : Int32) := by rw [lit, nI_eq (by omega) (by omega)]; exact q
    rw [hd]
    refine ⟨m2, ?_, g1, fun q k h => g2 q k (by omega), g3, fun j k hj hk => g2 _ _ (by omega), g4⟩
    simp only [f12_remember, h69, hne, if_false, f]
/-- the class notes a change of box b, which lies at p -/
theorem note_13 {c : Hp} {n p : Nat} (x : Int32) (h4 : c.1 34 4 = nI n) (hn : n ≤ 19) (hp : p < 34 ∨ 38 < p) (hz : bz (c.1 p 10) = true) : f1_note_13 x p c = some (wI (wI (wI (wI (wI c 35 n x) 36 n (c.1 p 5)) 37 n (c.1 p 9)) 38 n (c.1 p 10)) 34 4 (nI (n + 1))) := by
  have i20 := inb_t (show n < 20 by omega) (show 20 < 2 ^ 31 by omega)
  have ixn := ix_nI (show n < 2 ^ 31 by omega)
  have a1 : (wI c 35 n x).1 34 4 = nI n := by rw [wI_o (by omega)]; exact h4
  have b1 : (wI c 35 n x).1 p 5 = c.1 p 5 := by rw [wI_o (by omega)]
  have a2 : (wI (wI c 35 n x) 36 n (c.1 p 5)).1 34 4 = nI n := by rw [wI_o (by omega)]; exact a1
  have b2 : (wI (wI c 35 n x) 36 n (c.1 p 5)).1 p 9 = c.1 p 9 := by rw [wI_o (by omega), wI_o (by omega)]
  have a3 : (wI (wI (wI c 35 n x) 36 n (c.1 p 5)) 37 n (c.1 p 9)).1 34 4 = nI n := by rw [wI_o (by omega)]; exact a2
  have b3 : (wI (wI (wI c 35 n x) 36 n (c.1 p 5)) 37 n (c.1 p 9)).1 p 10 = c.1 p 10 := by rw [wI_o (by omega), wI_o (by omega), wI_o (by omega)]
  have a4 : (wI (wI (wI (wI c 35 n x) 36 n (c.1 p 5)) 37 n (c.1 p 9)) 38 n (c.1 p 10)).1 34 4 = nI n := by rw [wI_o (by omega)]; exact a3
  simp only [f1_note_13, h4, i20, ixn, gd, if_true, lt]
  simp only [a1, b1, i20, ixn, if_true]
  simp only [a2, b2, i20, ixn, if_true]
  simp only [a3, b3, i20, ixn, hz, if_true]
  simp only [a4, nI_1]
theorem drop_ex {c : Hp} (h4 : c.1 34 4 = nI 20) (hz : ∀ j, j < 20 → bz (c.1 38 j) = true) : ∃ c', f1_dropEarliest c = some c' ∧ c'.1 34 4 = nI 19 ∧ (∀ q k, ¬ (34 ≤ q ∧ q ≤ 38) → c'.1 q k = c.1 q k) ∧ c'.2 = c.2 ∧ ∀ q j, 35 ≤ q → q ≤ 38 → j < 19 → c'.1 q j = c.1 q (j + 1) := by
  have key : ∀ n, n ≤ 19 → ∃ c', f1_dropEarliest_12 0 (wI c 34 4 (nI 19)) = lp (fun z : Int32 × Hp => f1_dropEarliest_12_s z.1 z.2) (nI n, c') ∧ c'.1 34 4 = nI 19 ∧ (∀ q k, ¬ (34 ≤ q ∧ q ≤ 38) → c'.1 q k = c.1 q k) ∧ c'.2 = c.2 ∧ (∀ q j, 35 ≤ q → q ≤ 38 → j < n → c'.1 q j = c.1 q (j + 1)) ∧ ∀ q j, 35 ≤ q → q ≤ 38 → n ≤ j → c'.1 q j = c.1 q j := by
    intro n
    induction n with
    | zero =>
      intro _
      exact ⟨wI c 34 4 (nI 19), rfl, by rw [wI_s], fun q k h => wI_o (by omega), rfl, fun q j _ _ hj => by omega, fun q j h1 h2 _ => wI_o (by omega)⟩
    | succ n ih =>
      intro hn
      obtain ⟨k, e, e4, o, e2, hy, hx⟩ := ih (by omega)
      have v35 : k.1 35 (n + 1) = c.1 35 (n + 1) := hx 35 _ (by omega) (by omega) (by omega)
      have v36 : (wI k 35 n (c.1 35 (n + 1))).1 36 (n + 1) = c.1 36 (n + 1) := by rw [wI_o (by omega)]; exact hx 36 _ (by omega) (by omega) (by omega)
      have v37 : (wI (wI k 35 n (c.1 35 (n + 1))) 36 n (c.1 36 (n + 1))).1 37 (n + 1) = c.1 37 (n + 1) := by rw [wI_o (by omega), wI_o (by omega)]; exact hx 37 _ (by omega) (by omega) (by omega)
      have v38 : (wI (wI (wI k 35 n (c.1 35 (n + 1))) 36 n (c.1 36 (n + 1))) 37 n (c.1 37 (n + 1))).1 38 (n + 1) = c.1 38 (n + 1) := by rw [wI_o (by omega), wI_o (by omega), wI_o (by omega)]; exact hx 38 _ (by omega) (by omega) (by omega)
      refine ⟨wI (wI (wI (wI k 35 n (c.1 35 (n + 1))) 36 n (c.1 36 (n + 1))) 37 n (c.1 37 (n + 1))) 38 n (c.1 38 (n + 1)), ?_, ?_, fun q k' h => ?_, e2, fun q j h1 h2 hj => ?_, fun q j h1 h2 hj => ?_⟩
      · rw [e]
        refine lp_inl ?_
        have i20 := inb_t (show n < 20 by omega) (show 20 < 2 ^ 31 by omega)
        have i21 := inb_t (show n + 1 < 20 by omega) (show 20 < 2 ^ 31 by omega)
        have ixn := ix_nI (show n < 2 ^ 31 by omega)
        have ixm := ix_nI (show n + 1 < 2 ^ 31 by omega)
        simp only [f1_dropEarliest_12_s, e4, nI_ge (show n < 19 by omega) (show 19 < 2 ^ 31 by omega), if_false, gd, nI_1, i20, i21, ixn, ixm, if_true, lt, v35]
        simp only [v36]
        simp only [v37]
        simp only [v38, hz (n + 1) (by omega), if_true]
      · rw [wI_o (by omega), wI_o (by omega), wI_o (by omega), wI_o (by omega)]; exact e4
      · rw [wI_o (by omega), wI_o (by omega), wI_o (by omega), wI_o (by omega)]; exact o q k' h
      · have hq : q = 35 ∨ q = 36 ∨ q = 37 ∨ q = 38 := by omega
        by_cases z : j = n
        · subst z
          rcases hq with rfl | rfl | rfl | rfl
          · rw [wI_o (by omega), wI_o (by omega), wI_o (by omega), wI_s]
          · rw [wI_o (by omega), wI_o (by omega), wI_s]
          · rw [wI_o (by omega), wI_s]
          · rw [wI_s]
        · rw [wI_o (by omega), wI_o (by omega), wI_o (by omega), wI_o (by omega)]; exact hy q j h1 h2 (by omega)
      · rw [wI_o (by omega), wI_o (by omega), wI_o (by omega), wI_o (by omega)]; exact hx q j h1 h2 (by omega)
  obtain ⟨k, e, e4, o, e2, hy, -⟩ := key 19 (Nat.le_refl _)
  refine ⟨k, ?_, e4, o, e2, hy⟩
  simp only [f1_dropEarliest, lt, h4, show (nI 20 - 1 : Int32) = nI 19 from by decide, e]
  refine lp_inr (o := some k) ?_
  simp only [f1_dropEarliest_12_s, e4, nI_le (Nat.le_refl 19) (show 19 < 2 ^ 31 by omega), if_true, Option.map_some]
theorem note_ex {c : Hp} {n p : Nat} (x : Int32) (h4 : c.1 34 4 = nI n) (hn : n ≤ 20) (hp : p < 34 ∨ 38 < p) (hz : bz (c.1 p 10) = true) (hz2 : ∀ j, j < n → bz (c.1 38 j) = true) : ∃ c', f1_note x p c = some c' ∧ c'.1 34 4 = nI (n - dd n + 1) ∧ (∀ q k, ¬ (34 ≤ q ∧ q ≤ 38) → c'.1 q k = c.1 q k) ∧ c'.2 = c.2 ∧ (∀ q j, 35 ≤ q → q ≤ 38 → j < n - dd n → c'.1 q j = c.1 q (j + dd n)) ∧ c'.1 35 (n - dd n) = x ∧ c'.1 36 (n - dd n) = c.1 p 5 ∧ c'.1 37 (n - dd n) = c.1 p 9 ∧ c'.1 38 (n - dd n) = c.1 p 10 := by
  have fin : ∀ (k : Hp) (l : Nat), k.1 34 4 = nI l → l ≤ 19 → (∀ q k', ¬ (34 ≤ q ∧ q ≤ 38) → k.1 q k' = c.1 q k') → k.2 = c.2 → ∃ c', f1_note_13 x p k = some c' ∧ c'.1 34 4 = nI (l + 1) ∧ (∀ q k, ¬ (34 ≤ q ∧ q ≤ 38) → c'.1 q k = c.1 q k) ∧ c'.2 = c.2 ∧ (∀ q j, 35 ≤ q → q ≤ 38 → j < l → c'.1 q j = k.1 q j) ∧ c'.1 35 l = x ∧ c'.1 36 l = c.1 p 5 ∧ c'.1 37 l = c.1 p 9 ∧ c'.1 38 l = c.1 p 10 := by
    intro k l k4 hl ko k2
    refine ⟨_, note_13 x k4 hl hp (by rw [ko p 10 (by omega)]; exact hz), by rw [wI_s], fun q k' h => ?_, k2, fun q j h1 h2 hj => ?_, ?_, ?_, ?_, ?_⟩
    · rw [wI_o (by omega), wI_o (by omega), wI_o (by omega), wI_o (by omega), wI_o (by omega)]; exact ko q k' h
    · rw [wI_o (by omega), wI_o (by omega), wI_o (by omega), wI_o (by omega), wI_o (by omega)]
    · rw [wI_o (by omega), wI_o (by omega), wI_o (by omega), wI_o (by omega), wI_s]
    · rw [wI_o (by omega), wI_o (by omega), wI_o (by omega), wI_s]; exact ko _ _ (by omega)
    · rw [wI_o (by omega), wI_o (by omega), wI_s]; exact ko _ _ (by omega)
    · rw [wI_o (by omega), wI_s]; exact ko _ _ (by omega)
  by_cases q : n = 20
  · subst q
    obtain ⟨k, e, e4, o, e2, hy⟩ := drop_ex h4 hz2
    obtain ⟨c', f, f4, fo, f2, fj, f5, f6, f7, f8⟩ := fin k 19 e4 (by omega) o e2
    refine ⟨c', ?_, f4, fo, f2, fun q j h1 h2 hj => (fj q j h1 h2 hj).trans (hy q j h1 h2 hj), f5, f6, f7, f8⟩
    simp only [f1_note, h4, show (nI 20 : Int32) = 20 from rfl, if_true, e, Option.bind_some, f]
  · have hd : dd n = 0 := by unfold dd; rw [if_neg q]
    rw [hd]
    obtain ⟨c', f, f4, fo, f2, fj, f5, f6, f7, f8⟩ := fin c n h4 (by omega) (fun _ _ _ => rfl) rfl
    have hne : ¬ nI n = (20 : Int32) := by rw [lit, nI_eq (by omega) (by omega)]; exact q
    refine ⟨c', ?_, f4, fo, f2, fj, f5, f6, f7, f8⟩
    simp only [f1_note, h4, hne, if_false, f]
