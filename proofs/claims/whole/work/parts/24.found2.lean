/-! whose, sours; find, strike, known. -/
theorem five_mul {k : Nat} : (5 * nI k : Int32) = nI (5 * k) := by rw [lit, pk_mul]
theorem frM.of35 {m m' : Hp} (f : frM m m') (o : ∀ q k, q ≠ 35 → m'.1 q k = m.1 q k) : ∀ k, m'.1 0 k = m.1 0 k := fun k => o 0 k (by omega)
theorem whose_ex {S : Sp} {c m : Hp} (w0 : wfNow S) (w : wfFnd S) (hC0 : nowC S c) (hM0 : nowM S m) (hC : fndC S c) (hM : fndM S m) : ∃ r c' m', f11_boxesThatFit c = some (r, c') ∧ f12_whose m = some (r, m') ∧ frC c c' ∧ frM m m' ∧ ∃ p : Nat → Bool, r = orB p (S 0 0) := by
  have hn := w0.1
  obtain ⟨m1, em, fr⟩ := m0_ex m
  obtain ⟨c2, m2, ec, e2, fc, fm, om, mk⟩ := sift_ex w hC (hM.fr fr)
  have frm := fr.tr fm
  have hC2 := hC.fr fc
  have hM2 := hM.fr frm
  have hC3 := hC0.fr w0 fc
  have hM3 := hM0.fr w0 frm
  simp only [f11_boxesThatFit, f12_whose, em, lt, ec, e2, Option.bind_some, f11_boxesThatFit_11, f12_whose_13]
  have ex : ∃ p : Nat → Bool, ∀ i, i < S 0 0 → ∃ r, f3_fit (8 + 2 * i) (nI (S 3 i)) c2 = some r ∧ f12_fits (nI i) (nI (S 3 i)) m2 = some r ∧ p i = !decide (r = 0) := by
    have h : ∀ i, ∃ b : Bool, i < S 0 0 → ∃ r, f3_fit (8 + 2 * i) (nI (S 3 i)) c2 = some r ∧ f12_fits (nI i) (nI (S 3 i)) m2 = some r ∧ b = !decide (r = 0) := by
      intro i
      by_cases hi : i < S 0 0
      · obtain ⟨r, a, b⟩ := fit_eq w0 w hC3 hM3 hC2 hM2 mk hi (w0.2.2.2.2 i hi).2.2.1
        exact ⟨!decide (r = 0), fun _ => ⟨r, a, b, rfl⟩⟩
      · exact ⟨false, fun q => absurd q hi⟩
    exact ⟨fun i => Classical.choose (h i), fun i => Classical.choose_spec (h i)⟩
  obtain ⟨p, hp⟩ := ex
  refine ⟨orB p (S 0 0), c2, m2, ?_, ?_, fc, frm, p, rfl⟩
  · refine lp_for1 (f := fun z : Int32 × Int32 => f11_boxesThatFit_11_s z.1 z.2 c2) (fun i => (orB p i, nI i)) (S 0 0) (fun i hi => ?_) ?_
    · obtain ⟨r, a, b, d⟩ := hp i hi
      simp only [f11_boxesThatFit_11_s, f11_boxesThatFit_59, lt, hC3.1, nI_ge hi (show S 0 0 < 2 ^ 31 by omega), if_false, gd, inb_t (show i < 6 by omega) (by omega), if_true, ix_nI (show i < 2 ^ 31 by omega), (hC3.2.2.2.2 i hi).2.2.2.2.1, a, Option.bind_some, nI_1, orB, d]
      by_cases q : r = 0
      · simp [q]
      · simp [q]
    · simp only [f11_boxesThatFit_11_s, hC3.1, nI_le (Nat.le_refl (S 0 0)) (show S 0 0 < 2 ^ 31 by omega), if_true]
  · refine lp_for1 (f := fun z : Int32 × Int32 => f12_whose_13_s z.1 z.2 m2) (fun i => (orB p i, nI i)) (S 0 0) (fun i hi => ?_) ?_
    · obtain ⟨r, a, b, d⟩ := hp i hi
      simp only [f12_whose_13_s, f12_whose_43, lt, hM3.1, nI_ge hi (show S 0 0 < 2 ^ 31 by omega), if_false, gd, inb_t (show i < 12 by omega) (by omega), if_true, ix_nI (show i < 2 ^ 31 by omega), (hM3.2.2.2.2 i hi).2.2.2.1, b, Option.bind_some, nI_1, orB, d]
      by_cases q : r = 0
      · simp [q]
      · simp [q]
    · simp only [f12_whose_13_s, hM3.1, nI_le (Nat.le_refl (S 0 0)) (show S 0 0 < 2 ^ 31 by omega), if_true]
theorem op_whose {S : Sp} {c m : Hp} (w0 : wfNow S) (w : wfFnd S) (hC0 : nowC S c) (hM0 : nowM S m) (hC : fndC S c) (hM : fndM S m) : ∃ r c' m', f11_whose c = some (r, c') ∧ f12_whose m = some (r, m') ∧ frC c c' ∧ frM m m' := by
  obtain ⟨r, c', m', a, b, d, e, -⟩ := whose_ex w0 w hC0 hM0 hC hM
  refine ⟨r, c', m', ?_, b, d, e⟩
  simp only [f11_whose, a, Option.bind_some]
theorem g10 {j : Nat} (h : j < 10) : ¬ (10 : Int32) ≤ nI j := by rw [lit]; exact nI_ge h (by omega)
theorem l10 : (10 : Int32) ≤ nI 10 := by rw [lit]; exact nI_le (Nat.le_refl 10) (by omega)
theorem op_sours {S : Sp} {c m : Hp} (w0 : wfNow S) (w : wfFnd S) (hC0 : nowC S c) (hM0 : nowM S m) (hC : fndC S c) (hM : fndM S m) (x : Int32) : ∃ r c' m', f11_sours x c = some (r, c') ∧ f12_sours x m = some (r, m') ∧ frC c c' ∧ frM m m' := by
  have hn := w0.1
  obtain ⟨m1, em, fr⟩ := m0_ex m
  have hM1 := hM0.fr w0 fr
  obtain ⟨c2, m2, ec, e2, fc, fm, om, mk⟩ := sift_ex w hC (hM.fr fr)
  have frm := fr.tr fm
  have hC2 := hC.fr fc
  have hM2 := hM.fr frm
  have hC3 := hC0.fr w0 fc
  have hM3 := hM0.fr w0 frm
  simp only [f11_sours, f12_sours, em, lt, isBoxC, isBoxM, hC0.1, hM1.1, ec, e2, Option.bind_some, f11_sours_21, f12_sours_23]
  rcases bi_cases x (S 0 0) (by omega) with h | ⟨i, hi, rfl, h⟩
  · simp only [h, if_true]; exact ⟨_, _, _, rfl, rfl, frC.rf, fr⟩
  · simp only [h, one_ne, if_false]
    have key := lp_sim (f := fun z : Int32 × Int32 => f11_sours_21_s (nI i) z.1 z.2 c2) (g := fun z : Int32 × Int32 => f12_sours_23_s (nI i) z.1 z.2 m2) (Q := fun r r' => ∃ v, r = (v, c2) ∧ r' = (v, m2)) (I := fun n s s' => ∃ v k, k ≤ 10 ∧ n = 10 - k ∧ s = s' ∧ s = (v, nI k)) ?_ 10 (0, 0) (0, 0) ⟨0, 0, by omega, rfl, rfl, rfl⟩
    · obtain ⟨r, r', e, e', v, rfl, rfl⟩ := key
      exact ⟨v, c2, m2, e, e', fc, frm⟩
    · rintro n s _ ⟨v, k, hk, hnk, rfl, rfl⟩
      by_cases he : k = 10
      · subst he
        refine ⟨.inr (v, c2), .inr (v, m2), ?_, ?_, v, rfl, rfl⟩
        · simp only [f11_sours_21_s, l10, if_true]
        · simp only [f12_sours_23_s, l10, if_true]
      · have hk10 : k < 10 := by omega
        obtain ⟨r, a, b⟩ := fit_eq (fl := 5 * k) w0 w hC3 hM3 hC2 hM2 mk hi (by omega)
        by_cases q : r = 0
        · refine ⟨.inl (v, nI (k + 1)), .inl (v, nI (k + 1)), ?_, ?_, 10 - (k + 1), by omega, v, k + 1, by omega, rfl, rfl, rfl⟩
          · simp only [f11_sours_21_s, f11_sours_55, g10 hk10, if_false, gd, inb_t (show i < 6 by omega) (by omega), if_true, ix_nI (show i < 2 ^ 31 by omega), five_mul, a, Option.bind_some, q, nI_1]
          · simp only [f12_sours_23_s, f12_sours_48, lt, g10 hk10, if_false, five_mul, b, Option.bind_some, q, if_true, nI_1, Int32.or_zero]
        · refine ⟨.inl (v ||| (1 <<< (nI k &&& 31)), nI (k + 1)), .inl (v ||| (1 <<< (nI k &&& 31)), nI (k + 1)), ?_, ?_, 10 - (k + 1), by omega, _, k + 1, by omega, rfl, rfl, rfl⟩
          · simp only [f11_sours_21_s, f11_sours_55, lt, g10 hk10, if_false, gd, inb_t (show i < 6 by omega) (by omega), if_true, ix_nI (show i < 2 ^ 31 by omega), five_mul, a, Option.bind_some, q, nI_1]
          · simp only [f12_sours_23_s, f12_sours_48, lt, g10 hk10, if_false, five_mul, b, Option.bind_some, q, nI_1]
/-- a new one is found: what both sides keep then -/
def addF (S : Sp) (st pl so is : Nat) : Sp := fun a b => if a = 0 ∧ b = 14 then S 0 14 + 1 else if a = 15 ∧ b = S 0 14 then st else if a = 16 ∧ b = S 0 14 then pl else if a = 17 ∧ b = S 0 14 then so else if a = 18 ∧ b = S 0 14 then is else S a b
