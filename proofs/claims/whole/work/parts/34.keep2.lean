/-! keep and back on both sides. -/
theorem wJ_s {h : Hp} {p k : Nat} {v : Int64} : (wJ h p k v).2.1 p k = v := by
  show up2 h.2.1 p k v p k = v
  exact up2_s
theorem wJ_o {h : Hp} {p k q j : Nat} {v : Int64} (e : ¬ (q = p ∧ j = k)) : (wJ h p k v).2.1 q j = h.2.1 q j := by
  show up2 h.2.1 p k v q j = _
  exact up2_of e
theorem wJ_1 {h : Hp} {p k : Nat} {v : Int64} : (wJ h p k v).1 = h.1 := rfl
theorem g6 {j : Nat} (h : j < 6) : ¬ (6 : Int32) ≤ nI j := by rw [lit]; exact nI_ge h (by omega)
theorem l6 : (6 : Int32) ≤ nI 6 := by rw [lit]; exact nI_le (Nat.le_refl 6) (by omega)
/-- the reference's keep: the rest of the rows -/
theorem keepM_ex {m : Hp} : ∃ m', f12_keep_21 0 m = some (m.1 30 0, m') ∧ (∀ q k, ¬ (q = 38) → m'.1 q k = m.1 q k) ∧ m'.2.1 0 74 = m.2.1 0 57 ∧ m'.2.1 0 57 = m.2.1 0 57 ∧ m'.2.2 = m.2.2 ∧ m'.1 38 18 = m.1 30 0 ∧ m'.1 38 19 = m.1 31 0 ∧ ∀ b, b < 6 → m'.1 38 b = m.1 25 b ∧ m'.1 38 (6 + b) = m.1 26 b ∧ m'.1 38 (12 + b) = m.1 27 b := by
  have key : ∀ n, n ≤ 6 → ∃ m', f12_keep_21 0 m = lp (fun z : Int32 × Hp => f12_keep_21_s z.1 z.2) (nI n, m') ∧ (∀ q k, ¬ (q = 38) → m'.1 q k = m.1 q k) ∧ m'.2 = m.2 ∧ ∀ b, b < n → m'.1 38 b = m.1 25 b ∧ m'.1 38 (6 + b) = m.1 26 b ∧ m'.1 38 (12 + b) = m.1 27 b := by
    intro n
    induction n with
    | zero => intro _; exact ⟨m, rfl, fun _ _ _ => rfl, rfl, fun b hb => by omega⟩
    | succ n ih =>
      intro hn
      obtain ⟨k, e, o, e2, hb⟩ := ih (by omega)
      have v1 : k.1 25 n = m.1 25 n := o _ _ (by omega)
      have v2 : (wI k 38 n (m.1 25 n)).1 26 n = m.1 26 n := by rw [wI_o (by omega)]; exact o _ _ (by omega)
      have v3 : (wI (wI k 38 n (m.1 25 n)) 38 (6 + n) (m.1 26 n)).1 27 n = m.1 27 n := by rw [wI_o (by omega), wI_o (by omega)]; exact o _ _ (by omega)
      refine ⟨wI (wI (wI k 38 n (m.1 25 n)) 38 (6 + n) (m.1 26 n)) 38 (12 + n) (m.1 27 n), ?_, fun q j hq => ?_, e2, fun b hb' => ?_⟩
      · rw [e]
        refine lp_inl ?_
        have a6 : (6 + nI n : Int32) = nI (6 + n) := by rw [lit, nI_add]
        have a12 : (12 + nI n : Int32) = nI (12 + n) := by rw [lit, nI_add]
        simp only [f12_keep_21_s, g6 (show n < 6 by omega), if_false, gd, inb_t (show n < 12 by omega) (by omega), inb_t (show n < 20 by omega) (by omega), if_true, ix_nI (show n < 2 ^ 31 by omega), lt, v1, a6, inb_t (show 6 + n < 20 by omega) (by omega), ix_nI (show 6 + n < 2 ^ 31 by omega), v2, a12, inb_t (show 12 + n < 20 by omega) (by omega), ix_nI (show 12 + n < 2 ^ 31 by omega), v3, nI_1]
      · rw [wI_o (by omega), wI_o (by omega), wI_o (by omega)]; exact o q j hq
      · by_cases z : b = n
        · subst z
          refine ⟨?_, ?_, ?_⟩
          · rw [wI_o (by omega), wI_o (by omega), wI_s]
          · rw [wI_o (by omega), wI_s]
          · rw [wI_s]
        · obtain ⟨b1, b2, b3⟩ := hb b (by omega)
          refine ⟨?_, ?_, ?_⟩
          · rw [wI_o (by omega), wI_o (by omega), wI_o (by omega)]; exact b1
          · rw [wI_o (by omega), wI_o (by omega), wI_o (by omega)]; exact b2
          · rw [wI_o (by omega), wI_o (by omega), wI_o (by omega)]; exact b3
  obtain ⟨k, e, o, e2, hb⟩ := key 6 (Nat.le_refl _)
  have v1 : k.1 30 0 = m.1 30 0 := o _ _ (by omega)
  have v2 : (wI k 38 18 (m.1 30 0)).1 31 0 = m.1 31 0 := by rw [wI_o (by omega)]; exact o _ _ (by omega)
  have v3 : (wJ (wI (wI k 38 18 (m.1 30 0)) 38 19 (m.1 31 0)) 0 74 (m.2.1 0 57)).1 30 0 = m.1 30 0 := by
    show (wI (wI k 38 18 (m.1 30 0)) 38 19 (m.1 31 0)).1 30 0 = _
    rw [wI_o (by omega), wI_o (by omega)]; exact v1
  have v4 : (wI (wI k 38 18 (m.1 30 0)) 38 19 (m.1 31 0)).2.1 0 57 = m.2.1 0 57 := by rw [wI_2, wI_2, e2]
  refine ⟨wJ (wI (wI k 38 18 (m.1 30 0)) 38 19 (m.1 31 0)) 0 74 (m.2.1 0 57), ?_, fun q j hq => ?_, wJ_s, ?_, ?_, ?_, ?_, fun b hb' => ?_⟩
  · rw [e]
    refine lp_inr (o := some _) ?_
    have i2 : inb 0 2 = true := by decide
    have i18 : inb 18 20 = true := by decide
    have i19 : inb 19 20 = true := by decide
    have x0 : ix 0 = 0 := by decide
    have x18 : ix 18 = 18 := by decide
    have x19 : ix 19 = 19 := by decide
    simp only [f12_keep_21_s, l6, if_true, f12_keep_75, gd, i2, i18, i19, x0, x18, x19, lt, v1, v2, v4, v3, Option.map_some]
  · show (wI (wI k 38 18 (m.1 30 0)) 38 19 (m.1 31 0)).1 q j = _
    rw [wI_o (by omega), wI_o (by omega)]; exact o q j hq
  · rw [wJ_o (by omega)]; exact v4
  · show (wI (wI k 38 18 (m.1 30 0)) 38 19 (m.1 31 0)).2.2 = _
    rw [wI_2, wI_2, e2]
  · show (wI (wI k 38 18 (m.1 30 0)) 38 19 (m.1 31 0)).1 38 18 = _
    rw [wI_o (by omega), wI_s]
  · show (wI (wI k 38 18 (m.1 30 0)) 38 19 (m.1 31 0)).1 38 19 = _
    rw [wI_s]
  · show (wI (wI k 38 18 (m.1 30 0)) 38 19 (m.1 31 0)).1 38 b = _ ∧ (wI (wI k 38 18 (m.1 30 0)) 38 19 (m.1 31 0)).1 38 (6 + b) = _ ∧ (wI (wI k 38 18 (m.1 30 0)) 38 19 (m.1 31 0)).1 38 (12 + b) = _
    rw [wI_o (by omega), wI_o (by omega), wI_o (by omega), wI_o (by omega), wI_o (by omega), wI_o (by omega)]
    exact hb b hb'
/-- all but what speaks of the image -/
def eqI (S S' : Sp) : Prop := ∀ a b, ¬ ((a = 0 ∧ (b = 13 ∨ 20 ≤ b ∧ b ≤ 22)) ∨ (30 ≤ a ∧ a ≤ 35)) → S' a b = S a b
theorem eqI_ke {S : Sp} : eqI S (keS S) := by
  intro a b h
  unfold keS
  rw [if_neg (by omega), if_neg (by omega), if_neg (by omega), if_neg (by omega), if_neg (by omega), if_neg (by omega), if_neg (by omega), if_neg (by omega), if_neg (by omega), if_neg (by omega)]
theorem op_keep {S : Sp} {c m : Hp} (w : wfNow S) (hC : nowC S c) (hM : nowM S m) : ∃ S' r c' m', f11_keep c = some (r, c') ∧ f12_keep m = some (r, m') ∧ wfImg S' ∧ imgC S' c' ∧ imgM S' m' ∧ eqI S S' ∧ (∀ q k, ¬ (q = 0 ∧ k = 13) → ¬ (20 ≤ q ∧ q ≤ 33) → c'.1 q k = c.1 q k) ∧ c'.2 = c.2 ∧ (∀ q k, ¬ (q = 0 ∧ (k = 2 ∨ k = 71)) → ¬ (q = 37 ∨ q = 38) → m'.1 q k = m.1 q k) ∧ m'.2.1 0 57 = m.2.1 0 57 ∧ m'.2.2 = m.2.2 := by
  have hn := w.1
  obtain ⟨m0, em, o, o2⟩ := m0_ex2 m
  have hM0 := hM.o w o o2
  obtain ⟨c1, ec, s1, co, c2⟩ := copyShelf (p := 20) (q := 6) w (Or.inl ⟨rfl, rfl⟩) (shC_now.mpr hC)
  obtain ⟨m1, e1, p1, p2, pb⟩ := put_ex (h := wI m0 0 71 1) (p := 37) (ln := 18) (i := 0) rfl (by omega) (by omega) (by omega)
  obtain ⟨m2, e2, q1, q74, q57, q22, q18, q19, qb⟩ := keepM_ex (m := m1)
  have po : ∀ q k, ¬ (q = 37) → ¬ (q = 0 ∧ k = 71) → m1.1 q k = m0.1 q k := fun q k h1 h2 => (p1 q k (by omega)).trans (wI_o h2)
  have y1 : m1.1 30 0 = nI (S 0 4) := (po _ _ (by omega) (by omega)).trans hM0.2.1
  have y2 : (wI c1 0 13 1).1 6 2 = nI (S 0 4) := by rw [wI_o (by omega), co 6 2 (by omega)]; exact hC.2.1
  have hke := @im_ke S
  refine ⟨keS S, nI (S 0 4), wI c1 0 13 1, m2, ?_, ?_, ⟨by simp [keS], fun _ => w.cg hke.1 hke.2⟩, ⟨by rw [wI_s]; simp [keS]; rfl, fun _ => s1.cg hke.1 hke.2 hn (fun q k h1 h2 => wI_o (by omega))⟩, ⟨?_, fun _ => ⟨?_, ?_, ?_, fun b hb => ?_⟩⟩, eqI_ke, fun q k h1 h2 => ?_, c2, fun q k h1 h2 => ?_, ?_, ?_⟩
  · simp only [f11_keep, ec, Option.bind_some, lt, y2]
  · simp only [f12_keep, em, lt, show f12_put 37 0 (wI m0 0 71 1) = some m1 from e1, Option.bind_some, e2, y1]
  · rw [q1 0 71 (by omega), p1 0 71 (by omega), wI_s]; simp [keS]; rfl
  · rw [q18, y1]; simp [keS]
  · rw [q19, po _ _ (by omega) (by omega), hM0.2.2.2.1]; simp [keS]
  · rw [q74, p2, wI_2, hM0.2.2.1]; simp [keS]
  · have hb : b < S 0 0 := by simpa [keS] using hb
    obtain ⟨b1, b2, b3, b4, b5, b6, b7, b8, b9⟩ := hM0.2.2.2.2 b hb
    obtain ⟨r1, r2, r3⟩ := pb b (by omega)
    obtain ⟨s1, s2, s3⟩ := qb b (by omega)
    have w6 := (w.2.2.2.2 b hb).2.2.2.2.2.1
    rw [wI_o (by omega), show 0 + b = b by omega] at r1
    rw [wI_o (by omega), show 0 + 6 + b = 6 + b by omega] at r2
    rw [wI_o (by omega), show 0 + 12 + b = 12 + b by omega] at r3
    refine ⟨?_, ?_, ?_, ?_, ?_, ?_⟩
    · rw [q1 37 _ (by omega), r1, b3]; simp [keS]
    · rw [q1 37 _ (by omega), r2, b8]
      have e : keS S 35 b = S 6 b := by simp [keS]
      rw [e]
      have : S 6 b = 0 ∨ S 6 b = 1 := by omega
      rcases this with z | z <;> rw [z] <;> decide
    · rw [q1 37 _ (by omega), r3, b7]; simp [keS]
    · rw [s1, po _ _ (by omega) (by omega), b4]; simp [keS]
    · rw [s2, po _ _ (by omega) (by omega), b5]; simp [keS]
    · rw [s3, po _ _ (by omega) (by omega), b6]; simp [keS]
  · rw [wI_o h1]; exact co q k (by omega)
  · rw [q1 q k (by omega), po q k (by omega) (by omega)]; exact o q k (by omega)
  · rw [q57, p2, wI_2, o2]
  · rw [q22, p2, wI_2, o2]
/-- the reference's back: the rest of the rows -/
theorem backM_ex {m : Hp} : ∃ m', f12_back_25 0 m = some (m.1 38 18, m') ∧ (∀ q k, ¬ (((25 ≤ q ∧ q ≤ 27) ∧ k < 6) ∨ ((q = 30 ∨ q = 31) ∧ k = 0) ∨ (q = 0 ∧ k = 69)) → m'.1 q k = m.1 q k) ∧ m'.2.1 0 57 = m.2.1 0 74 ∧ m'.2.1 0 74 = m.2.1 0 74 ∧ m'.2.2 = m.2.2 ∧ m'.1 30 0 = m.1 38 18 ∧ m'.1 31 0 = m.1 38 19 ∧ m'.1 0 69 = 0 ∧ ∀ b, b < 6 → m'.1 25 b = m.1 38 b ∧ m'.1 26 b = m.1 38 (6 + b) ∧ m'.1 27 b = m.1 38 (12 + b) := by
  have key : ∀ n, n ≤ 6 → ∃ m', f12_back_25 0 m = lp (fun z : Int32 × Hp => f12_back_25_s z.1 z.2) (nI n, m') ∧ (∀ q k, ¬ ((25 ≤ q ∧ q ≤ 27) ∧ k < 6) → m'.1 q k = m.1 q k) ∧ m'.2 = m.2 ∧ ∀ b, b < n → m'.1 25 b = m.1 38 b ∧ m'.1 26 b = m.1 38 (6 + b) ∧ m'.1 27 b = m.1 38 (12 + b) := by
    intro n
    induction n with
    | zero => intro _; exact ⟨m, rfl, fun _ _ _ => rfl, rfl, fun b hb => by omega⟩
    | succ n ih =>
      intro hn
      obtain ⟨k, e, o, e2, hb⟩ := ih (by omega)
      have v1 : k.1 38 n = m.1 38 n := o _ _ (by omega)
      have v2 : (wI k 25 n (m.1 38 n)).1 38 (6 + n) = m.1 38 (6 + n) := by rw [wI_o (by omega)]; exact o _ _ (by omega)
      have v3 : (wI (wI k 25 n (m.1 38 n)) 26 n (m.1 38 (6 + n))).1 38 (12 + n) = m.1 38 (12 + n) := by rw [wI_o (by omega), wI_o (by omega)]; exact o _ _ (by omega)
      refine ⟨wI (wI (wI k 25 n (m.1 38 n)) 26 n (m.1 38 (6 + n))) 27 n (m.1 38 (12 + n)), ?_, fun q j hq => ?_, e2, fun b hb' => ?_⟩
      · rw [e]
        refine lp_inl ?_
        have a6 : (6 + nI n : Int32) = nI (6 + n) := by rw [lit, nI_add]
        have a12 : (12 + nI n : Int32) = nI (12 + n) := by rw [lit, nI_add]
        simp only [f12_back_25_s, g6 (show n < 6 by omega), if_false, gd, inb_t (show n < 12 by omega) (by omega), inb_t (show n < 20 by omega) (by omega), if_true, ix_nI (show n < 2 ^ 31 by omega), lt, v1, a6, inb_t (show 6 + n < 20 by omega) (by omega), ix_nI (show 6 + n < 2 ^ 31 by omega), v2, a12, inb_t (show 12 + n < 20 by omega) (by omega), ix_nI (show 12 + n < 2 ^ 31 by omega), v3, nI_1]
      · rw [wI_o (by omega), wI_o (by omega), wI_o (by omega)]; exact o q j hq
      · by_cases z : b = n
        · subst z
          refine ⟨?_, ?_, ?_⟩
          · rw [wI_o (by omega), wI_o (by omega), wI_s]
          · rw [wI_o (by omega), wI_s]
          · rw [wI_s]
        · obtain ⟨b1, b2, b3⟩ := hb b (by omega)
          refine ⟨?_, ?_, ?_⟩
          · rw [wI_o (by omega), wI_o (by omega), wI_o (by omega)]; exact b1
          · rw [wI_o (by omega), wI_o (by omega), wI_o (by omega)]; exact b2
          · rw [wI_o (by omega), wI_o (by omega), wI_o (by omega)]; exact b3
  obtain ⟨k, e, o, e2, hb⟩ := key 6 (Nat.le_refl _)
  have v1 : k.1 38 18 = m.1 38 18 := o _ _ (by omega)
  have v2 : (wI k 30 0 (m.1 38 18)).1 38 19 = m.1 38 19 := by rw [wI_o (by omega)]; exact o _ _ (by omega)
  have v4 : (wI (wI k 30 0 (m.1 38 18)) 31 0 (m.1 38 19)).2.1 0 74 = m.2.1 0 74 := by rw [wI_2, wI_2, e2]
  have v5 : (wI (wJ (wI (wI k 30 0 (m.1 38 18)) 31 0 (m.1 38 19)) 0 57 (m.2.1 0 74)) 0 69 0).1 30 0 = m.1 38 18 := by rw [wI_o (by omega), wJ_1, wI_o (by omega), wI_s]
  refine ⟨wI (wJ (wI (wI k 30 0 (m.1 38 18)) 31 0 (m.1 38 19)) 0 57 (m.2.1 0 74)) 0 69 0, ?_, fun q j hq => ?_, ?_, ?_, ?_, v5, ?_, wI_s, fun b hb' => ?_⟩
  · rw [e]
    refine lp_inr (o := some _) ?_
    have i2 : inb 0 2 = true := by decide
    have i18 : inb 18 20 = true := by decide
    have i19 : inb 19 20 = true := by decide
    have x0 : ix 0 = 0 := by decide
    have x18 : ix 18 = 18 := by decide
    have x19 : ix 19 = 19 := by decide
    simp only [f12_back_25_s, l6, if_true, f12_back_79, gd, i2, i18, i19, x0, x18, x19, lt, v1, v2, v4, v5, Option.map_some]
  · rw [wI_o (by omega), wJ_1, wI_o (by omega), wI_o (by omega)]; exact o q j (by omega)
  · rw [wI_2, wJ_s]
  · rw [wI_2, wJ_o (by omega)]; exact v4
  · show (wI (wI k 30 0 (m.1 38 18)) 31 0 (m.1 38 19)).2.2 = _
    rw [wI_2, wI_2, e2]
  · rw [wI_o (by omega), wJ_1, wI_s]
  · rw [wI_o (by omega), wI_o (by omega), wI_o (by omega), wJ_1, wI_o (by omega), wI_o (by omega), wI_o (by omega), wI_o (by omega), wI_o (by omega), wI_o (by omega)]
    exact hb b hb'
/-- all but how the boxes stand and what can be undone -/
def eqB (S S' : Sp) : Prop := ∀ a b, ¬ ((a = 0 ∧ (b = 12 ∨ 4 ≤ b ∧ b ≤ 6)) ∨ a = 2 ∨ a = 3 ∨ a = 4 ∨ a = 6 ∨ a = 8 ∨ a = 9) → S' a b = S a b
theorem eqB_ba {S : Sp} : eqB S (baS S) := by
  intro a b h
  unfold baS imS
  rw [if_neg (by omega), if_neg (by omega), if_neg (by omega), if_neg (by omega), if_neg (by omega), if_neg (by omega), if_neg (by omega), if_neg (by omega), if_neg (by omega), if_neg (by omega)]
theorem ba_im {S : Sp} : (∀ k, k = 0 ∨ 4 ≤ k ∧ k ≤ 6 → baS S 0 k = imS S 0 k) ∧ ∀ a k, 1 ≤ a → a ≤ 9 → baS S a k = imS S a k :=
  ⟨fun k hk => by unfold baS; rw [if_neg (by omega)], fun a k h1 h2 => by unfold baS; rw [if_neg (by omega)]⟩
theorem op_back {S : Sp} {c m : Hp} (w : wfNow S) (u : wfUnd S) (i : wfImg S) (hC : nowC S c) (hM : nowM S m) (uC : undC S c) (uM : undM S m) (iC : imgC S c) (iM : imgM S m) : ∃ S' r c' m', f11_back c = some (r, c') ∧ f12_back m = some (r, m') ∧ wfNow S' ∧ wfUnd S' ∧ nowC S' c' ∧ nowM S' m' ∧ undC S' c' ∧ undM S' m' ∧ eqB S S' ∧ (∀ q k, ¬ (6 ≤ q ∧ q ≤ 19) → ¬ (q = 34 ∧ k = 4) → c'.1 q k = c.1 q k) ∧ c'.2 = c.2 ∧ (∀ q k, ¬ (((24 ≤ q ∧ q ≤ 29) ∧ k < 6) ∨ ((q = 30 ∨ q = 31) ∧ k = 0) ∨ (q = 0 ∧ (k = 2 ∨ k = 69))) → m'.1 q k = m.1 q k) ∧ m'.2.1 0 74 = m.2.1 0 74 ∧ m'.2.2 = m.2.2 := by
  have hn := w.1
  obtain ⟨m0, em, o, o2⟩ := m0_ex2 m
  have hM0 := hM.o w o o2
  have j71 : m0.1 0 71 = nI (S 0 13) := (o _ _ (by omega)).trans iM.1
  by_cases hz : S 0 13 = 0
  · have z : nI (S 0 13) = (0 : Int32) := by rw [hz]; rfl
    refine ⟨S, -1, c, m0, ?_, ?_, w, u, hC, hM0, uC, uM.o o, fun _ _ _ => rfl, fun _ _ _ _ => rfl, rfl, fun q k h => o q k (by omega), by rw [o2], by rw [o2]⟩
    · simp only [f11_back, iC.1, z, if_true]
    · simp only [f12_back, em, lt, j71, z, if_true]
  · have h1 : S 0 13 = 1 := by have := i.1; omega
    have z : ¬ nI (S 0 13) = (0 : Int32) := by rw [h1]; decide
    have wI' := i.2 h1
    have sI := iC.2 h1
    obtain ⟨k18, k19, k74, kb'⟩ := iM.2 h1
    have hn0 : imS S 0 0 = S 0 0 := by simp [imS]
    obtain ⟨c1, ec, s1, co, c2⟩ := copyShelf (p := 6) (q := 20) wI' (Or.inr ⟨rfl, rfl⟩) sI
    obtain ⟨m1, e1, t1, t2, tb⟩ := take_ex (h := m0) (p := 37) (ln := 18) (i := 0) rfl (by omega) (by omega) (by omega)
    obtain ⟨m2, e2, q1, q57, q74, q22, q30, q31, q69, qb⟩ := backM_ex (m := m1)
    have y1 : m1.1 38 18 = nI (S 0 20) := (t1 _ _ (by omega)).trans ((o _ _ (by omega)).trans k18)
    have ecl : f1_clear c1 = some (wI c1 34 4 0) := rfl
    have y2 : (wI c1 34 4 0).1 6 2 = nI (S 0 20) := by rw [wI_o (by omega), s1.2.1]; simp [imS]
    have hba := @ba_im S
    refine ⟨baS S, nI (S 0 20), wI c1 34 4 0, m2, ?_, ?_, wI'.cg hba.1 hba.2, ⟨by simp [baS], fun j hj => absurd hj (by simp [baS])⟩, ?_, ⟨?_, ?_, ?_, ?_, fun b hb => ?_⟩, ⟨by rw [wI_s]; simp [baS]; rfl, fun j hj => absurd hj (by simp [baS])⟩, ⟨by rw [q69]; simp [baS]; rfl, fun j b hj hb => absurd hj (by simp [baS])⟩, eqB_ba, fun q k h2 h3 => ?_, c2, fun q k h => ?_, ?_, ?_⟩
    · simp only [f11_back, iC.1, z, if_false, ec, Option.bind_some, ecl, y2]
    · simp only [f12_back, em, lt, j71, z, if_false, show f12_take 37 0 m0 = some m1 from e1, Option.bind_some, e2, y1]
    · exact (shC_now.mp s1).cg hba.1 hba.2 (by rw [hn0]; exact hn) (fun q k hq => wI_o (by omega))
    · rw [hba.1 0 (by omega), hn0, q1 _ _ (by omega), t1 _ _ (by omega)]; exact hM0.1
    · rw [hba.1 4 (by omega), q30, y1]; simp [imS]
    · rw [hba.1 5 (by omega), q57, t2, o2, k74]; simp [imS]
    · rw [hba.1 6 (by omega), q31, t1 _ _ (by omega), o _ _ (by omega), k19]; simp [imS]
    · rw [hba.1 0 (by omega), hn0] at hb
      obtain ⟨b1, b2, b3, b4, b5, b6, b7, b8, b9⟩ := hM0.2.2.2.2 b hb
      obtain ⟨r1, r2, r3⟩ := tb b (by omega)
      obtain ⟨s1, s2, s3⟩ := qb b (by omega)
      obtain ⟨v1, v2, v3, v4, v5, v6⟩ := kb' b hb
      have w6 := (wI'.2.2.2.2 b (by rw [hn0]; exact hb)).2.2.2.2.2.1
      have w6' : S 35 b ≤ 1 := by simpa [imS] using w6
      rw [show 0 + b = b by omega, o _ _ (by omega), v1] at r1
      rw [show 0 + 6 + b = 6 + b by omega, o _ _ (by omega), v2] at r2
      rw [show 0 + 12 + b = 12 + b by omega, o _ _ (by omega), v3] at r3
      refine ⟨?_, ?_, ?_, ?_, ?_, ?_, ?_, ?_, fun k hk => ?_⟩
      · rw [hba.2 1 b (by omega) (by omega), q1 _ _ (by omega), t1 _ _ (by omega), b1]; simp [imS]
      · rw [hba.2 5 b (by omega) (by omega), q1 _ _ (by omega), t1 _ _ (by omega), b2]; simp [imS]
      · rw [hba.2 2 b (by omega) (by omega), q1 _ _ (by omega), r1]; simp [imS]
      · rw [hba.2 3 b (by omega) (by omega), s1, t1 _ _ (by omega), o _ _ (by omega), v4]; simp [imS]
      · rw [hba.2 8 b (by omega) (by omega), s2, t1 _ _ (by omega), o _ _ (by omega), v5]; simp [imS]
      · rw [hba.2 9 b (by omega) (by omega), s3, t1 _ _ (by omega), o _ _ (by omega), v6]; simp [imS]
      · rw [hba.2 4 b (by omega) (by omega), q1 _ _ (by omega), r3]; simp [imS]
      · rw [hba.2 6 b (by omega) (by omega), q1 _ _ (by omega), r2]
        have e : imS S 6 b = S 35 b := by simp [imS]
        rw [e]
        have : S 35 b = 0 ∨ S 35 b = 1 := by omega
        rcases this with z | z <;> rw [z] <;> decide
      · rw [hba.2 7 _ (by omega) (by omega), q1 _ _ (by omega), t1 _ _ (by omega), b9 k hk]; simp [imS]
    · rw [wI_o h3]; exact co q k (by omega)
    · rw [q1 q k (by omega), t1 q k (by omega)]; exact o q k (by omega)
    · rw [q74, t2, o2]
    · rw [q22, t2, o2]
