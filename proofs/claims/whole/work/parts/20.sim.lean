/-! Two loops that go side by side; calls whose loops are alike. -/
def SS {σ σ' ρ ρ' : Type} (P : σ → σ' → Prop) (Q : ρ → ρ' → Prop) : σ ⊕ ρ → σ' ⊕ ρ' → Prop
  | .inl a, .inl b => P a b
  | .inr r, .inr r' => Q r r'
  | _, _ => False
theorem lp_sim {σ σ' ρ ρ' : Type} {f : σ → Option (σ ⊕ ρ)} {g : σ' → Option (σ' ⊕ ρ')} {Q : ρ → ρ' → Prop} (I : Nat → σ → σ' → Prop) (hs : ∀ n s s', I n s s' → ∃ o o', f s = some o ∧ g s' = some o' ∧ SS (fun a b => ∃ n', n' < n ∧ I n' a b) Q o o') : ∀ n s s', I n s s' → ∃ r r', lp f s = some r ∧ lp g s' = some r' ∧ Q r r' := by
  intro n
  induction n using Nat.strongRecOn with
  | ind n ih =>
    intro s s' hi
    obtain ⟨o, o', e, e', h⟩ := hs n s s' hi
    cases o with
    | inl a =>
      cases o' with
      | inl b =>
        obtain ⟨n', hn, hi'⟩ := h
        rw [lp_inl e, lp_inl e']
        exact ih n' hn a b hi'
      | inr r => exact False.elim h
    | inr r =>
      cases o' with
      | inl b => exact False.elim h
      | inr r' =>
        have h1 : lp f s = some r := lp_inr (o := some r) e
        have h2 : lp g s' = some r' := lp_inr (o := some r') e'
        exact ⟨r, r', h1, h2, h⟩
theorem far_in {S : Sp} {c m : Hp} (w : wfNow S) (hC : nowC S c) (hM : nowM S m) (x2 x3 x4 x5 : Int32) : ∃ v, f11_stepsOfKin_32 x2 x3 x4 x5 0 c = some (.inl (v, x4 + 1)) ∧ f12_farOf_31 x2 x3 x4 x5 0 m = some (.inl (v, x4 + 1)) := by
  have hn := w.1
  have key := lp_sim (f := fun z : Int32 × Int32 => f11_stepsOfKin_32_s x2 x3 x4 z.1 z.2 c) (g := fun z : Int32 × Int32 => f12_farOf_31_s x2 x3 x4 z.1 z.2 m) (Q := fun r r' => ∃ v, r = .inl (v, x4 + 1) ∧ r' = .inl (v, x4 + 1)) (I := fun n s s' => ∃ j, j ≤ S 0 0 ∧ n = S 0 0 - j ∧ s = s' ∧ s.2 = nI j) ?_ (S 0 0) (x5, 0) (x5, 0) ⟨0, by omega, rfl, rfl, rfl⟩
  · obtain ⟨r, r', e, e', v, rfl, rfl⟩ := key
    exact ⟨v, e, e'⟩
  · rintro n ⟨a, b⟩ _ ⟨j, hj, hnj, rfl, e⟩
    have e : b = nI j := e
    subst e
    by_cases he : j = S 0 0
    · subst he
      refine ⟨.inr (.inl (a, x4 + 1)), .inr (.inl (a, x4 + 1)), ?_, ?_, a, rfl, rfl⟩
      · simp only [f11_stepsOfKin_32_s, f11_stepsOfKin_78, hC.1, nI_le (Nat.le_refl (S 0 0)) (show S 0 0 < 2 ^ 31 by omega), if_true, Option.map_some]
      · simp only [f12_farOf_31_s, f12_farOf_71, hM.1, nI_le (Nat.le_refl (S 0 0)) (show S 0 0 < 2 ^ 31 by omega), if_true, Option.map_some]
    · have hlt : j < S 0 0 := by omega
      have hb := (hC.2.2.2.2 j hlt).2.2.1
      have hb' := (hM.2.2.2.2 j hlt).2.1
      by_cases q : (x3 >>> (nI j &&& 31)) &&& 1 = 1
      · refine ⟨.inl (a ||| nI (S 5 j), nI (j + 1)), .inl (a ||| nI (S 5 j), nI (j + 1)), ?_, ?_, S 0 0 - (j + 1), by omega, j + 1, by omega, rfl, rfl, rfl⟩
        · simp only [f11_stepsOfKin_32_s, f11_stepsOfKin_72, lt, hC.1, nI_ge hlt (show S 0 0 < 2 ^ 31 by omega), if_false, q, if_true, gd, inb_t (show j < 6 by omega) (by omega), ix_nI (show j < 2 ^ 31 by omega), hb, nI_1]
        · simp only [f12_farOf_31_s, f12_farOf_62, lt, hM.1, nI_ge hlt (show S 0 0 < 2 ^ 31 by omega), if_false, isOf_eq, q, if_true, Option.bind_some, one_ne, gd, inb_t (show j < 12 by omega) (by omega), ix_nI (show j < 2 ^ 31 by omega), hb', nI_1]
      · refine ⟨.inl (a, nI (j + 1)), .inl (a, nI (j + 1)), ?_, ?_, S 0 0 - (j + 1), by omega, j + 1, by omega, rfl, rfl, rfl⟩
        · simp only [f11_stepsOfKin_32_s, f11_stepsOfKin_72, lt, hC.1, nI_ge hlt (show S 0 0 < 2 ^ 31 by omega), if_false, q, nI_1]
        · simp only [f12_farOf_31_s, f12_farOf_62, lt, hM.1, nI_ge hlt (show S 0 0 < 2 ^ 31 by omega), if_false, isOf_eq, q, if_true, Option.bind_some, nI_1, Int32.or_zero]
theorem far_eq {S : Sp} {c m : Hp} (w : wfNow S) (hC : nowC S c) (hM : nowM S m) (x y : Int32) : ∃ r, f11_stepsOfKin x y c = some r ∧ f12_farOf x y m = some r := by
  have hn := w.1
  simp only [f11_stepsOfKin, f12_farOf, lt, f11_stepsOfKin_7, f12_farOf_7]
  have key := lp_sim (f := fun z : Int32 × Int32 => f11_stepsOfKin_7_s y z.1 z.2 c) (g := fun z : Int32 × Int32 => f12_farOf_7_s y z.1 z.2 m) (Q := fun r r' => r = r') (I := fun n s s' => ∃ j, j ≤ 6 ∧ n = 6 - j ∧ s = s' ∧ s.2 = nI j) ?_ 6 (1 <<< (x &&& 31), 0) (1 <<< (x &&& 31), 0) ⟨0, by omega, rfl, rfl, rfl⟩
  · obtain ⟨r, r', e, e', rfl⟩ := key
    exact ⟨r, e, e'⟩
  · rintro n ⟨a, b⟩ _ ⟨j, hj, hnj, rfl, e⟩
    have e : b = nI j := e
    subst e
    by_cases he : j = 6
    · subst he
      refine ⟨.inr (-2), .inr (-2), ?_, ?_, rfl⟩
      · simp only [f11_stepsOfKin_7_s, lit, nI_le (Nat.le_refl 6) (show 6 < 2 ^ 31 by omega), if_true]
      · simp only [f12_farOf_7_s, lit, nI_le (Nat.le_refl 6) (show 6 < 2 ^ 31 by omega), if_true]
    · have hg : ¬ (6 : Int32) ≤ nI j := by rw [lit]; exact nI_ge (by omega) (by omega)
      by_cases q : (a >>> (y &&& 31)) &&& 1 = 1
      · refine ⟨.inr (nI j), .inr (nI j), ?_, ?_, rfl⟩
        · simp only [f11_stepsOfKin_7_s, hg, if_false, q, if_true]
        · simp only [f12_farOf_7_s, hg, if_false, isOf_eq, q, if_true, Option.bind_some, one_ne]
      · obtain ⟨v, e1, e2⟩ := far_in w hC hM y a (nI j) a
        refine ⟨.inl (v, nI j + 1), .inl (v, nI j + 1), ?_, ?_, 6 - (j + 1), by omega, j + 1, by omega, rfl, rfl, nI_1 j⟩
        · simp only [f11_stepsOfKin_7_s, hg, if_false, q, e1]
        · simp only [f12_farOf_7_s, hg, if_false, isOf_eq, q, if_true, Option.bind_some, e2]
theorem op_far {S : Sp} {c m : Hp} (w : wfNow S) (hC : nowC S c) (hM : nowM S m) (x y : Int32) : ∃ r m', f11_far x y c = some r ∧ f12_far x y m = some (r, m') ∧ frM m m' := by
  have hn := w.1
  obtain ⟨m1, em, fr⟩ := m0_ex m
  have hM1 := hM.fr w fr
  obtain ⟨r, e1, e2⟩ := far_eq w hC hM1 x y
  simp only [f11_far, f12_far, em, lt, f11_far_25, f12_far_30, isBoxC, isBoxM, hC.1, hM1.1, Option.bind_some, e1, e2]
  rcases bi_cases x (S 0 0) (by omega) with h | ⟨i, hi, rfl, h⟩
  · simp only [h, if_true]; exact ⟨_, _, rfl, rfl, fr⟩
  · rcases bi_cases y (S 0 0) (by omega) with h2 | ⟨k, hk, rfl, h2⟩
    · simp only [h, h2, if_true, one_ne, if_false]; exact ⟨_, _, rfl, rfl, fr⟩
    · simp only [h, h2, one_ne, if_false]; exact ⟨_, _, rfl, rfl, fr⟩
theorem forged_in {S : Sp} {c m : Hp} {i : Nat} (w : wfNow S) (hC : nowC S c) (hE : ear S c) (hM : nowM S m) (hp : m.1 0 61 = 0) (hi : i < S 0 0) (v : Int32) : ∃ u, f11_forged_28 v (nI i) 0 c = some (.inl (u, nI (i + 1))) ∧ f12_forged_23 v (nI i) 0 m = some (.inl (u, nI (i + 1))) := by
  have hn := w.1
  have key := lp_sim (f := fun z : Int32 × Int32 => f11_forged_28_s z.1 (nI i) z.2 c) (g := fun z : Int32 × Int32 => f12_forged_23_s z.1 (nI i) z.2 m) (Q := fun r r' => ∃ u, r = .inl (u, nI (i + 1)) ∧ r' = .inl (u, nI (i + 1))) (I := fun n s s' => ∃ j, j ≤ S 0 0 ∧ n = S 0 0 - j ∧ s = s' ∧ s.2 = nI j) ?_ (S 0 0) (v, 0) (v, 0) ⟨0, by omega, rfl, rfl, rfl⟩
  · obtain ⟨r, r', e, e', u, rfl, rfl⟩ := key
    exact ⟨u, e, e'⟩
  · rintro n ⟨a, b⟩ _ ⟨j, hj, hnj, rfl, e⟩
    have e : b = nI j := e
    subst e
    by_cases he : j = S 0 0
    · subst he
      refine ⟨.inr (.inl (a, nI (i + 1))), .inr (.inl (a, nI (i + 1))), ?_, ?_, a, rfl, rfl⟩
      · simp only [f11_forged_28_s, f11_forged_87, hC.1, nI_le (Nat.le_refl (S 0 0)) (show S 0 0 < 2 ^ 31 by omega), if_true, Option.map_some, nI_1]
      · simp only [f12_forged_23_s, f12_forged_73, hM.1, nI_le (Nat.le_refl (S 0 0)) (show S 0 0 < 2 ^ 31 by omega), if_true, Option.map_some, nI_1]
    · have hlt : j < S 0 0 := by omega
      have hb := (hC.2.2.2.2 i hi).2.2.1
      have hb' := (hM.2.2.2.2 i hi).2.1
      have ea := alikeByC (t := 0) hE hn hi hlt (by omega)
      have ea' := alikeByM (t := 0) w hM hp hi hlt (by omega)
      have goal : ∀ u : Int32, SS (fun a b : Int32 × Int32 => ∃ n', n' < n ∧ ∃ j, j ≤ S 0 0 ∧ n' = S 0 0 - j ∧ a = b ∧ a.2 = nI j) (fun r r' : (Int32 × Int32) ⊕ (Int32 × Hp) => ∃ u, r = .inl (u, nI (i + 1)) ∧ r' = .inl (u, nI (i + 1))) (.inl (u, nI (j + 1))) (.inl (u, nI (j + 1))) := fun u => ⟨S 0 0 - (j + 1), by omega, j + 1, by omega, rfl, rfl, rfl⟩
      have hnn : (nI i = nI j) = (i = j) := by rw [nI_eq (by omega) (by omega)]
      by_cases q : i = j
      · refine ⟨_, _, ?_, ?_, goal a⟩
        · simp only [f11_forged_28_s, f11_forged_81, hC.1, nI_ge hlt (show S 0 0 < 2 ^ 31 by omega), if_false, hnn, q, if_true, nI_1]
        · simp only [f12_forged_23_s, f12_forged_67, hM.1, nI_ge hlt (show S 0 0 < 2 ^ 31 by omega), if_false, hnn, q, if_true, nI_1]
      · by_cases q2 : (nI (S 5 i) >>> (nI j &&& 31)) &&& 1 = 1
        · refine ⟨_, _, ?_, ?_, goal a⟩
          · simp only [f11_forged_28_s, f11_forged_81, hC.1, nI_ge hlt (show S 0 0 < 2 ^ 31 by omega), if_false, hnn, q, gd, inb_t (show i < 6 by omega) (by omega), if_true, ix_nI (show i < 2 ^ 31 by omega), f0_isKinOf_eq, hb, q2, Option.bind_some, one_ne, nI_1]
          · simp only [f12_forged_23_s, f12_forged_67, hM.1, nI_ge hlt (show S 0 0 < 2 ^ 31 by omega), if_false, hnn, q, gd, inb_t (show i < 12 by omega) (by omega), if_true, ix_nI (show i < 2 ^ 31 by omega), isOf_eq, hb', q2, Option.bind_some, one_ne, nI_1]
        · by_cases q3 : nI (alk (hS S) i j 0) < 6
          · refine ⟨_, _, ?_, ?_, goal a⟩
            · simp only [f11_forged_28_s, f11_forged_81, hC.1, nI_ge hlt (show S 0 0 < 2 ^ 31 by omega), if_false, hnn, q, gd, inb_t (show i < 6 by omega) (by omega), if_true, ix_nI (show i < 2 ^ 31 by omega), f0_isKinOf_eq, hb, q2, Option.bind_some, show f2_alikeBy (nI i) (nI j) 0 c = _ from ea, q3, nI_1]
            · simp only [f12_forged_23_s, f12_forged_67, hM.1, nI_ge hlt (show S 0 0 < 2 ^ 31 by omega), if_false, hnn, q, gd, inb_t (show i < 12 by omega) (by omega), if_true, ix_nI (show i < 2 ^ 31 by omega), isOf_eq, hb', q2, Option.bind_some, show f12_alikeBy (nI i) (nI j) 0 m = _ from ea', q3, nI_1]
          · refine ⟨_, _, ?_, ?_, goal (a ||| (1 <<< (nI i &&& 31)))⟩
            · simp only [f11_forged_28_s, f11_forged_81, lt, hC.1, nI_ge hlt (show S 0 0 < 2 ^ 31 by omega), if_false, hnn, q, gd, inb_t (show i < 6 by omega) (by omega), if_true, ix_nI (show i < 2 ^ 31 by omega), f0_isKinOf_eq, hb, q2, Option.bind_some, show f2_alikeBy (nI i) (nI j) 0 c = _ from ea, q3, nI_1]
            · simp only [f12_forged_23_s, f12_forged_67, lt, hM.1, nI_ge hlt (show S 0 0 < 2 ^ 31 by omega), if_false, hnn, q, gd, inb_t (show i < 12 by omega) (by omega), if_true, ix_nI (show i < 2 ^ 31 by omega), isOf_eq, hb', q2, Option.bind_some, show f12_alikeBy (nI i) (nI j) 0 m = _ from ea', q3, nI_1]
theorem op_forged {S : Sp} {c m : Hp} (w : wfNow S) (hC : nowC S c) (hM : nowM S m) : ∃ r c' m', f11_forged c = some (r, c') ∧ f12_forged m = some (r, m') ∧ frC c c' ∧ frM m m' := by
  have hn := w.1
  obtain ⟨m1, e1, f1, p58, p59, p60, p61, p62, pf, pj⟩ := plain_ex (m0 m)
  have fr := (m0_fr m).tr f1
  have hM1 := hM.fr w fr
  obtain ⟨c1, ec, l⟩ := listen_ex w hC
  have hC1 := hC.fr w l.fr
  simp only [f11_forged, f12_forged, lt, show f12_plainTried (wI m 0 2 0) = some m1 from e1, Option.bind_some, ec, f11_forged_15, f12_forged_13]
  have key := lp_sim (f := fun z : Int32 × Int32 => f11_forged_15_s z.1 z.2 c1) (g := fun z : Int32 × Int32 => f12_forged_13_s z.1 z.2 m1) (Q := fun r r' => ∃ v, r = (v, c1) ∧ r' = (v, m1)) (I := fun n s s' => ∃ j, j ≤ S 0 0 ∧ n = S 0 0 - j ∧ s = s' ∧ s.2 = nI j) ?_ (S 0 0) (0, 0) (0, 0) ⟨0, by omega, rfl, rfl, rfl⟩
  · obtain ⟨r, r', e, e', v, rfl, rfl⟩ := key
    exact ⟨v, c1, m1, e, e', l.fr, fr⟩
  · rintro n ⟨a, b⟩ _ ⟨j, hj, hnj, rfl, e⟩
    have e : b = nI j := e
    subst e
    by_cases he : j = S 0 0
    · subst he
      refine ⟨.inr (a, c1), .inr (a, m1), ?_, ?_, a, rfl, rfl⟩
      · simp only [f11_forged_15_s, hC1.1, nI_le (Nat.le_refl (S 0 0)) (show S 0 0 < 2 ^ 31 by omega), if_true]
      · simp only [f12_forged_13_s, hM1.1, nI_le (Nat.le_refl (S 0 0)) (show S 0 0 < 2 ^ 31 by omega), if_true]
    · have hlt : j < S 0 0 := by omega
      obtain ⟨u, e1, e2⟩ := forged_in w hC1 l.ear hM1 p61 hlt a
      refine ⟨.inl (u, nI (j + 1)), .inl (u, nI (j + 1)), ?_, ?_, S 0 0 - (j + 1), by omega, j + 1, by omega, rfl, rfl, rfl⟩
      · simp only [f11_forged_15_s, hC1.1, nI_ge hlt (show S 0 0 < 2 ^ 31 by omega), if_false, e1]
      · simp only [f12_forged_13_s, hM1.1, nI_ge hlt (show S 0 0 < 2 ^ 31 by omega), if_false, e2]
