/-! What was told: names, guests, damp; guest, named, laughBack, stay. -/
/-- 0 1 guests, 0 2 kins, 0 3 knots, 0 7 damp, 0 8 seed; 10 names of boxes, 11 names of guests, 12 waits, 13 degrees -/
def wfTold (S : Sp) : Prop := S 0 1 ≤ 5 ∧ S 0 2 ≤ 9 ∧ S 0 3 ≤ 64 ∧ S 0 7 ≤ 100 ∧ (∀ g, g < S 0 1 → S 12 g ≤ 99 ∧ S 13 g ≤ 9)
def toldC (S : Sp) (t : Nat) (c : Hp) : Prop := c.2.2 0 11 = some t ∧ (t = 55 ∨ t = 78) ∧ c.1 t 5 = nI (S 0 0) ∧ c.1 t 8 = nI (S 0 1) ∧ c.1 t 7 = nI (S 0 2) ∧ c.1 (t + 14) 5 = nI (S 0 3) ∧ c.1 t 9 = nI (S 0 7) ∧ (∀ i, i < S 0 0 → c.1 (t + 1 + 1 + 2 * i) 1 = nI (S 10 i)) ∧ ∀ g, g < S 0 1 → c.1 (t + 20) g = nI (S 11 g) ∧ c.1 (t + 21) g = nI (S 12 g) ∧ c.1 (t + 22) g = nI (S 13 g)
def toldM (S : Sp) (m : Hp) : Prop := m.1 0 14 = nI (S 0 1) ∧ m.1 0 13 = nI (S 0 2) ∧ m.1 0 15 = nI (S 0 3) ∧ m.1 4 0 = nI (S 0 7) ∧ (∀ i, i < S 0 0 → m.1 5 i = nI (S 10 i)) ∧ ∀ g, g < S 0 1 → m.1 11 g = nI (S 11 g) ∧ m.1 12 g = nI (S 12 g) ∧ m.1 13 g = nI (S 13 g)
theorem toldC.fr {S : Sp} {t : Nat} {c c' : Hp} (h : toldC S t c) (hn : S 0 0 ≤ 6) (f : frC c c') : toldC S t c' := by
  obtain ⟨h1, h2, h3, h4, h5, h6, h7, h8, h9⟩ := h
  refine ⟨by rw [f.2]; exact h1, h2, (f.1 _ _ (by unfold scrC; omega)).trans h3, (f.1 _ _ (by unfold scrC; omega)).trans h4, (f.1 _ _ (by unfold scrC; omega)).trans h5, (f.1 _ _ (by unfold scrC; omega)).trans h6, (f.1 _ _ (by unfold scrC; omega)).trans h7, fun i hi => (f.1 _ _ (by unfold scrC; omega)).trans (h8 i hi), fun g hg => ?_⟩
  exact ⟨(f.1 _ _ (by unfold scrC; omega)).trans (h9 g hg).1, (f.1 _ _ (by unfold scrC; omega)).trans (h9 g hg).2.1, (f.1 _ _ (by unfold scrC; omega)).trans (h9 g hg).2.2⟩
theorem toldM.fr {S : Sp} {c c' : Hp} (h : toldM S c) (f : frM c c') : toldM S c' := by
  obtain ⟨h1, h2, h3, h4, h5, h6⟩ := h
  refine ⟨(f.1 _ _ (by unfold scrM; omega)).trans h1, (f.1 _ _ (by unfold scrM; omega)).trans h2, (f.1 _ _ (by unfold scrM; omega)).trans h3, (f.1 _ _ (by unfold scrM; omega)).trans h4, fun i hi => (f.1 _ _ (by unfold scrM; omega)).trans (h5 i hi), fun g hg => ?_⟩
  exact ⟨(f.1 _ _ (by unfold scrM; omega)).trans (h6 g hg).1, (f.1 _ _ (by unfold scrM; omega)).trans (h6 g hg).2.1, (f.1 _ _ (by unfold scrM; omega)).trans (h6 g hg).2.2⟩
theorem kd10 {t : Nat} (h : t = 55 ∨ t = 78) : decide (kdC t = 10) = true := by rcases h with rfl | rfl <;> rfl
theorem op_guest {S : Sp} {t : Nat} {c m : Hp} (w : wfTold S) (hC : toldC S t c) (hM : toldM S m) (x y : Int32) : ∃ r m', f11_guest x y c = some r ∧ f12_guest x y m = some (r, m') ∧ frM m m' := by
  have hn := w.1
  obtain ⟨m1, em, fr⟩ := m0_ex m
  have hM1 := hM.fr fr
  obtain ⟨h1, h2, h3, h4, h5, h6, h7, h8, h9⟩ := hC
  have hkd := kd10 h2
  have eg : f12_isGuest x m1 = some (bi x (nI (S 0 1))) := by
    rw [← hM1.1]
    unfold f12_isGuest bi f12_isGuest_16
    split
    · rfl
    · split <;> rfl
  simp only [f11_guest, f12_guest, em, lt, h1, Option.bind_some, gd, hkd, if_true, isWithin_eq, h4, eg]
  rcases bi_cases x (S 0 1) (by omega) with h | ⟨i, hi, rfl, h⟩
  · have hw : wi x 0 (nI (S 0 1) - 1) = 0 := by
      unfold wi
      unfold bi at h
      by_cases q : x < 0
      · rw [if_pos q]
      · rw [if_neg q] at h ⊢
        by_cases q2 : nI (S 0 1) ≤ x
        · have : nI (S 0 1) - 1 < x := by
            rw [lit]
            rcases Nat.eq_zero_or_pos (S 0 1) with z | z
            · rw [z]
              obtain ⟨j, hj, rfl⟩ := nI_of q
              rw [Int32.lt_iff_toInt_lt, nI_toInt hj]
              rw [show (nI 0 - nI 1).toInt = -1 from by decide]
              omega
            · rw [pk_sub z]
              refine Int32.lt_of_lt_of_le (nI_lt (b := S 0 1) (by omega) (by omega)) q2
          rw [if_pos this]
        · rw [if_neg q2] at h
          exact absurd h (by decide)
    simp only [h, hw, if_true]; exact ⟨_, _, rfl, rfl, fr⟩
  · have hw : wi (nI i) 0 (nI (S 0 1) - 1) = 1 := by
      unfold wi
      rw [if_neg (nI_pos (by omega)), lit, pk_sub (by omega), if_neg (nI_nlt (by omega) (by omega))]
    simp only [h, hw, one_ne, if_false, inb_t (show i < 5 by omega) (by omega), inb_t (show i < 10 by omega) (by omega), if_true, ix_nI (show i < 2 ^ 31 by omega), (h9 i hi).2.1, (h9 i hi).2.2, (hM1.2.2.2.2.2 i hi).2.1, (hM1.2.2.2.2.2 i hi).2.2]
    by_cases q : y = 0
    · simp only [q, if_true]; exact ⟨_, _, rfl, rfl, fr⟩
    · by_cases q2 : y = 1
      · simp only [q2, one_ne, if_false, if_true]; exact ⟨_, _, rfl, rfl, fr⟩
      · simp only [q, q2, if_false]; exact ⟨_, _, rfl, rfl, fr⟩
/-- a name sought in a row of n names -/
theorem seek_eq {m : Hp} {p ln n : Nat} {x : Int32} {N : Nat → Nat} (hl : lnM p = ln) (hle : n ≤ ln) (hln : ln < 1000) (hN : ∀ i, i < n → m.1 p i = nI (N i)) {f : Int32 → Option (Int32 ⊕ Int32)} (hf : ∀ j, j ≤ n → f (nI j) = if j = n then some (.inr (-1)) else if nI (N j) = x then some (.inr (nI j)) else some (.inl (nI (j + 1)))) : ∃ r, lp f 0 = some r ∧ f12_seek p 0 (nI n) x m = some r := by
  unfold f12_seek f12_seek_3
  have key := lp_sim (f := f) (g := fun z : Int32 => f12_seek_3_s p 0 (nI n) x z m) (Q := fun r r' => r = r') (I := fun k s s' => ∃ j, j ≤ n ∧ k = n - j ∧ s = s' ∧ s = nI j) ?_ n 0 0 ⟨0, by omega, rfl, rfl, rfl⟩
  · obtain ⟨r, r', e, e', rfl⟩ := key
    exact ⟨r, e, e'⟩
  · rintro k s _ ⟨j, hj, hk, rfl, rfl⟩
    have e0 : (0 + nI j : Int32) = nI j := by rw [lit, nI_add]; congr 1; omega
    by_cases he : j = n
    · subst he
      refine ⟨.inr (-1), .inr (-1), by rw [hf j hj, if_pos rfl], ?_, rfl⟩
      simp only [f12_seek_3_s, nI_le (Nat.le_refl j) (show j < 2 ^ 31 by omega), if_true]
    · have hlt : j < n := by omega
      by_cases q : nI (N j) = x
      · refine ⟨.inr (nI j), .inr (nI j), by rw [hf j hj, if_neg he, if_pos q], ?_, rfl⟩
        simp only [f12_seek_3_s, nI_ge hlt (show n < 2 ^ 31 by omega), if_false, gd, e0, hl, inb_t (show j < ln by omega) (by omega), if_true, ix_nI (show j < 2 ^ 31 by omega), hN j hlt, q]
      · refine ⟨.inl (nI (j + 1)), .inl (nI (j + 1)), by rw [hf j hj, if_neg he, if_neg q], ?_, n - (j + 1), by omega, j + 1, by omega, rfl, rfl, rfl⟩
        simp only [f12_seek_3_s, nI_ge hlt (show n < 2 ^ 31 by omega), if_false, gd, e0, hl, inb_t (show j < ln by omega) (by omega), if_true, ix_nI (show j < 2 ^ 31 by omega), hN j hlt, q, nI_1]
theorem op_named {S : Sp} {t : Nat} {c m : Hp} (w0 : wfNow S) (w : wfTold S) (hC : toldC S t c) (hM0 : nowM S m) (hM : toldM S m) (x y : Int32) : ∃ r m', f11_named x y c = some r ∧ f12_named x y m = some (r, m') ∧ frM m m' := by
  have hn := w0.1
  have hg := w.1
  obtain ⟨m1, em, fr⟩ := m0_ex m
  have hM1 := hM.fr fr
  have hM2 := hM0.fr w0 fr
  obtain ⟨h1, h2, h3, h4, h5, h6, h7, h8, h9⟩ := hC
  have hkd := kd10 h2
  obtain ⟨r1, a1, a2⟩ := seek_eq (m := m1) (p := 5) (ln := 12) (n := S 0 0) (x := y) (N := S 10) rfl (by omega) (by omega) (fun i hi => hM1.2.2.2.2.1 i hi) (f := fun z : Int32 => f10_boxNamed_2_s t y z c) (fun j hj => by
    by_cases he : j = S 0 0
    · subst he; simp only [f10_boxNamed_2_s, h3, nI_le (Nat.le_refl (S 0 0)) (show S 0 0 < 2 ^ 31 by omega), if_true]
    · have hlt : j < S 0 0 := by omega
      simp only [f10_boxNamed_2_s, h3, nI_ge hlt (show S 0 0 < 2 ^ 31 by omega), if_false, he, gd, inb_t (show j < 6 by omega) (by omega), if_true, ix_nI (show j < 2 ^ 31 by omega), h8 j hlt, nI_1])
  obtain ⟨r2, b1, b2⟩ := seek_eq (m := m1) (p := 11) (ln := 10) (n := S 0 1) (x := y) (N := S 11) rfl (by omega) (by omega) (fun i hi => (hM1.2.2.2.2.2 i hi).1) (f := fun z : Int32 => f10_guestNamed_2_s t y z c) (fun j hj => by
    by_cases he : j = S 0 1
    · subst he; simp only [f10_guestNamed_2_s, h4, nI_le (Nat.le_refl (S 0 1)) (show S 0 1 < 2 ^ 31 by omega), if_true]
    · have hlt : j < S 0 1 := by omega
      simp only [f10_guestNamed_2_s, h4, nI_ge hlt (show S 0 1 < 2 ^ 31 by omega), if_false, he, gd, inb_t (show j < 5 by omega) (by omega), if_true, ix_nI (show j < 2 ^ 31 by omega), (h9 j hlt).1, nI_1])
  simp only [f11_named, f12_named, em, lt, h1, Option.bind_some, gd, hkd, if_true, f10_boxNamed, f10_boxNamed_2, f10_guestNamed, f10_guestNamed_2, a1, b1, hM2.1, hM1.1, a2, b2]
  by_cases q : x = 0
  · simp only [q, if_true]; exact ⟨_, _, rfl, rfl, fr⟩
  · by_cases q2 : x = 1
    · simp only [q2, one_ne, if_false, if_true]; exact ⟨_, _, rfl, rfl, fr⟩
    · simp only [q, q2, if_false]; exact ⟨_, _, rfl, rfl, fr⟩
def gw (S : Sp) (W D : Int32) (g : Nat) : Bool := !decide (nI (S 12 g) < W) && !decide (nI (S 13 g) < D)
theorem guestsWho_eq {S : Sp} {t : Nat} {c : Hp} (w : wfTold S) (hC : toldC S t c) (W D : Int32) : f11_guestsWho W D c = some (orB (gw S W D) (S 0 1)) := by
  have hg := w.1
  obtain ⟨h1, h2, h3, h4, h5, h6, h7, h8, h9⟩ := hC
  have hkd := kd10 h2
  unfold f11_guestsWho f11_guestsWho_5
  refine lp_for1 (f := fun z : Int32 × Int32 => f11_guestsWho_5_s W D z.1 z.2 c) (fun i => (orB (gw S W D) i, nI i)) (S 0 1) (fun i hi => ?_) ?_
  · simp only [f11_guestsWho_5_s, f11_guestsWho_52, lt, h1, Option.bind_some, gd, hkd, if_true, h4, nI_ge hi (show S 0 1 < 2 ^ 31 by omega), if_false, inb_t (show i < 5 by omega) (by omega), ix_nI (show i < 2 ^ 31 by omega), (h9 i hi).2.1, (h9 i hi).2.2, nI_1, orB, gw]
    by_cases q1 : nI (S 12 i) < W
    · simp [q1]
    · by_cases q2 : nI (S 13 i) < D
      · simp [q1, q2]
      · simp [q1, q2]
  · simp only [f11_guestsWho_5_s, h1, Option.bind_some, gd, hkd, if_true, h4, nI_le (Nat.le_refl (S 0 1)) (show S 0 1 < 2 ^ 31 by omega)]
theorem orB_no {p : Nat → Bool} (h : ∀ i, p i = false) : ∀ n, orB p n = 0
  | 0 => rfl
  | n + 1 => by unfold orB; rw [h n, orB_no h n]; rfl
theorem op_laughBack {S : Sp} {t : Nat} {c m : Hp} (w : wfNow S) (w2 : wfTold S) (hC : nowC S c) (hM : nowM S m) (hT : toldC S t c) (hU : toldM S m) (x : Int32) : ∃ r m', f11_laughBack x c = some r ∧ f12_laughBack x m = some (r, m') ∧ frM m m' := by
  have hn := w.1
  have hg := w2.1
  obtain ⟨m1, em, fr⟩ := m0_ex m
  have hM1 := hM.fr w fr
  have hU1 := hU.fr fr
  obtain ⟨r, e1, e2⟩ := far_eq w hC hM1 0 x
  simp only [f11_laughBack, f12_laughBack, em, lt, isBoxC, isBoxM, hC.1, hM1.1, Option.bind_some, e1, e2]
  rcases bi_cases x (S 0 0) (by omega) with h | ⟨i, hi, rfl, h⟩
  · simp only [h, if_true]; exact ⟨_, _, rfl, rfl, fr⟩
  · have key : f12_laughBack_27 (nI i) r 0 0 m1 = some (if r < 0 then 0 else orB (gw S (8 * nI (S 1 i)) r) (S 0 1), m1) := by
      have : ∀ p : Nat → Bool, (∀ g, p g = if r < 0 then false else gw S (8 * nI (S 1 i)) r g) → f12_laughBack_27 (nI i) r 0 0 m1 = some (orB p (S 0 1), m1) := by
        intro p hp
        unfold f12_laughBack_27
        refine lp_for1 (f := fun z : Int32 × Int32 => f12_laughBack_27_s (nI i) r z.1 z.2 m1) (fun g => (orB p g, nI g)) (S 0 1) (fun g hgi => ?_) ?_
        · have w3 := w2.2.2.2.2 g hgi
          simp only [f12_laughBack_27_s, f12_laughBack_78, f12_laughBack_79, lt, hU1.1, nI_ge hgi (show S 0 1 < 2 ^ 31 by omega), if_false, gd, inb_t (show g < 10 by omega) (by omega), inb_t (show i < 12 by omega) (by omega), if_true, ix_nI (show g < 2 ^ 31 by omega), ix_nI (show i < 2 ^ 31 by omega), (hU1.2.2.2.2.2 g hgi).2.1, (hU1.2.2.2.2.2 g hgi).2.2, (hM1.2.2.2.2 i hi).1, nI_1, orB, hp g, gw]
          by_cases q0 : r < 0
          · simp [q0]
          · by_cases q2 : nI (S 13 g) < r
            · simp [q0, q2]
            · by_cases q1 : nI (S 12 g) < 8 * nI (S 1 i)
              · simp [q0, q1, q2]
              · simp [q0, q1, q2]
        · simp only [f12_laughBack_27_s, hU1.1, nI_le (Nat.le_refl (S 0 1)) (show S 0 1 < 2 ^ 31 by omega), if_true]
      by_cases q0 : r < 0
      · rw [this (fun _ => false) (fun g => by rw [if_pos q0]), if_pos q0, orB_no (fun _ => rfl)]
      · rw [this (gw S (8 * nI (S 1 i)) r) (fun g => by rw [if_neg q0]), if_neg q0]
    simp only [h, one_ne, if_false, gd, inb_t (show i < 6 by omega) (by omega), if_true, ix_nI (show i < 2 ^ 31 by omega), (hC.2.2.2.2 i hi).1, guestsWho_eq w2 hT, Option.bind_some, key]
    by_cases q0 : r < 0
    · have : ¬ 0 ≤ r := Int32.not_le.mpr q0
      simp only [q0, this, if_true, if_false]; exact ⟨_, _, rfl, rfl, fr⟩
    · have : 0 ≤ r := Int32.not_lt.mp q0
      simp only [q0, this, if_true, if_false]; exact ⟨_, _, rfl, rfl, fr⟩
