/-! find, strike, known: what both sides keep then. -/
theorem lt24 {n : Nat} (h : n < 24) : (nI n : Int32) < 24 := by rw [lit]; exact nI_lt h (by omega)
theorem bz_nI {n : Nat} (h : n ≤ 1) : bz (nI n) = true := by
  have : n = 0 ∨ n = 1 := by omega
  rcases this with rfl | rfl <;> decide
theorem add_eq {c : Hp} {n is : Nat} (x y : Int32) (h5 : c.1 39 5 = nI n) (hl : n < 24) (his : is ≤ 1) : f3_add x y (nI is) c = some (nI n, wI (wI (wI (wI (wI c 40 n x) 41 n y) 42 n (nI is)) 43 n 0) 39 5 (nI (n + 1))) := by
  have ef : (nI (n + 1) - 1 : Int32) = nI n := nI_pred n
  simp only [f3_add, h5, lt24 hl, if_true, gd, inb_t hl (show 24 < 2 ^ 31 by omega), ix_nI (show n < 2 ^ 31 by omega), lt]
  have a1 : (wI c 40 n x).1 39 5 = nI n := by rw [wI_o (by omega)]; exact h5
  simp only [a1, inb_t hl (show 24 < 2 ^ 31 by omega), ix_nI (show n < 2 ^ 31 by omega), if_true]
  have a2 : (wI (wI c 40 n x) 41 n y).1 39 5 = nI n := by rw [wI_o (by omega)]; exact a1
  simp only [a2, inb_t hl (show 24 < 2 ^ 31 by omega), ix_nI (show n < 2 ^ 31 by omega), if_true, bz_nI his]
  have a3 : (wI (wI (wI c 40 n x) 41 n y) 42 n (nI is)).1 39 5 = nI n := by rw [wI_o (by omega)]; exact a2
  simp only [a3, inb_t hl (show 24 < 2 ^ 31 by omega), ix_nI (show n < 2 ^ 31 by omega), if_true]
  have a4 : (wI (wI (wI (wI c 40 n x) 41 n y) 42 n (nI is)) 43 n 0).1 39 5 = nI n := by rw [wI_o (by omega)]; exact a3
  simp only [a4, nI_1, wI_s, ef]
theorem noted_eq {m : Hp} {n : Nat} (x y z : Int32) (h5 : m.1 0 65 = nI n) (hl : n < 24) : f12_noted x y z m = some (nI n, wI (wI (wI (wI m 34 (3 * n) x) 34 (3 * n + 1) y) 34 (3 * n + 2) z) 0 65 (nI (n + 1))) := by
  have ef : (nI (n + 1) - 1 : Int32) = nI n := nI_pred n
  have e0 : (3 * nI n : Int32) = nI (3 * n) := by rw [lit, pk_mul]
  have e1 : (3 * nI n + 1 : Int32) = nI (3 * n + 1) := by rw [e0, nI_1]
  have e2 : (3 * nI n + 2 : Int32) = nI (3 * n + 2) := by rw [e0, lit, nI_add]
  have a1 : (wI m 34 (3 * n) x).1 0 65 = nI n := by rw [wI_o (by omega)]; exact h5
  have a2 : (wI (wI m 34 (3 * n) x) 34 (3 * n + 1) y).1 0 65 = nI n := by rw [wI_o (by omega)]; exact a1
  have a3 : (wI (wI (wI m 34 (3 * n) x) 34 (3 * n + 1) y) 34 (3 * n + 2) z).1 0 65 = nI n := by rw [wI_o (by omega)]; exact a2
  unfold f12_noted
  simp only [h5, e0, gd, inb_t (show 3 * n < 72 by omega) (show 72 < 2 ^ 31 by omega), ix_nI (show 3 * n < 2 ^ 31 by omega), if_true, lt]
  simp only [a1, e0, nI_1, inb_t (show 3 * n + 1 < 72 by omega) (show 72 < 2 ^ 31 by omega), ix_nI (show 3 * n + 1 < 2 ^ 31 by omega), if_true]
  simp only [a2, e0, show (nI (3 * n) + 2 : Int32) = nI (3 * n + 2) from by rw [lit, nI_add], inb_t (show 3 * n + 2 < 72 by omega) (show 72 < 2 ^ 31 by omega), ix_nI (show 3 * n + 2 < 2 ^ 31 by omega), if_true]
  simp only [a3, nI_1, wI_s, ef]
theorem fndC.add {S : Sp} {c c' : Hp} {st pl so is : Nat} (h : fndC S c) (w : wfFnd S) (h5 : c'.1 39 5 = nI (S 0 14 + 1)) (h6 : c'.1 39 6 = c.1 39 6) (h43 : c'.1 43 (S 0 14) = nI st) (h40 : c'.1 40 (S 0 14) = nI pl) (h41 : st = 0 → c'.1 41 (S 0 14) = nI so ∧ c'.1 42 (S 0 14) = nI is) (ho : ∀ q j, 40 ≤ q → q ≤ 43 → j < S 0 14 → c'.1 q j = c.1 q j) : fndC (addF S st pl so is) c' := by
  refine ⟨h5, h6.trans h.2.1, fun j hj => ?_⟩
  have hj : j < S 0 14 + 1 := hj
  by_cases q : j = S 0 14
  · subst q
    simp only [addF]
    simp only [show ¬ ((15 : Nat) = 0 ∧ S 0 14 = 14) by omega, show ¬ ((16 : Nat) = 0 ∧ S 0 14 = 14) by omega, show ¬ ((17 : Nat) = 0 ∧ S 0 14 = 14) by omega, show ¬ ((18 : Nat) = 0 ∧ S 0 14 = 14) by omega, if_false]
    simp
    exact ⟨h43, h40, h41⟩
  · have hlt : j < S 0 14 := by omega
    obtain ⟨a, b, d⟩ := h.2.2 j hlt
    have e : ∀ x, 15 ≤ x → x ≤ 18 → addF S st pl so is x j = S x j := by
      intro x h1 h2
      unfold addF
      rw [if_neg (by omega), if_neg (by omega), if_neg (by omega), if_neg (by omega), if_neg (by omega)]
    rw [e 15 (by omega) (by omega), e 16 (by omega) (by omega), e 17 (by omega) (by omega), e 18 (by omega) (by omega)]
    exact ⟨(ho _ _ (by omega) (by omega) hlt).trans a, (ho _ _ (by omega) (by omega) hlt).trans b, fun z => ⟨(ho _ _ (by omega) (by omega) hlt).trans (d z).1, (ho _ _ (by omega) (by omega) hlt).trans (d z).2⟩⟩
theorem fndM.add {S : Sp} {m m' : Hp} {st pl so is : Nat} (h : fndM S m) (w : wfFnd S) (h5 : m'.1 0 65 = nI (S 0 14 + 1)) (h6 : m'.1 0 66 = m.1 0 66) (h0 : st = 0 → m'.1 34 (3 * S 0 14) = nI pl ∧ m'.1 34 (3 * S 0 14 + 1) = nI so ∧ m'.1 34 (3 * S 0 14 + 2) = nI is) (h1 : st = 1 → m'.1 34 (3 * S 0 14) = -1 ∧ m'.1 34 (3 * S 0 14 + 1) = nI pl) (ho : ∀ j, j < 3 * S 0 14 → m'.1 34 j = m.1 34 j) : fndM (addF S st pl so is) m' := by
  refine ⟨h5, h6.trans h.2.1, fun j hj => ?_⟩
  have hj : j < S 0 14 + 1 := hj
  by_cases q : j = S 0 14
  · subst q
    simp only [addF]
    simp only [show ¬ ((15 : Nat) = 0 ∧ S 0 14 = 14) by omega, show ¬ ((16 : Nat) = 0 ∧ S 0 14 = 14) by omega, show ¬ ((17 : Nat) = 0 ∧ S 0 14 = 14) by omega, show ¬ ((18 : Nat) = 0 ∧ S 0 14 = 14) by omega, if_false]
    simp
    exact ⟨h0, h1⟩
  · have hlt : j < S 0 14 := by omega
    obtain ⟨a, b⟩ := h.2.2 j hlt
    have e : ∀ x, 15 ≤ x → x ≤ 18 → addF S st pl so is x j = S x j := by
      intro x h1 h2
      unfold addF
      rw [if_neg (by omega), if_neg (by omega), if_neg (by omega), if_neg (by omega), if_neg (by omega)]
    rw [e 15 (by omega) (by omega), e 16 (by omega) (by omega), e 17 (by omega) (by omega), e 18 (by omega) (by omega)]
    exact ⟨fun z => ⟨(ho _ (by omega)).trans (a z).1, (ho _ (by omega)).trans (a z).2.1, (ho _ (by omega)).trans (a z).2.2⟩, fun z => ⟨(ho _ (by omega)).trans (b z).1, (ho _ (by omega)).trans (b z).2⟩⟩
theorem wfFnd.add {S : Sp} {st pl so is : Nat} (w : wfFnd S) (hl : S 0 14 < 24) (h : (st = 0 ∧ pl < 8 ∧ so ≤ 9 ∧ is ≤ 1) ∨ (st = 1 ∧ pl < S 0 14)) : wfFnd (addF S st pl so is) := by
  obtain ⟨w1, w2, w3⟩ := w
  have e14 : addF S st pl so is 0 14 = S 0 14 + 1 := rfl
  have e15 : addF S st pl so is 0 15 = S 0 15 := rfl
  refine ⟨by rw [e14]; omega, ?_, fun j hj => ?_⟩
  · unfold kb at w2 ⊢
    rw [e14, e15]
    by_cases q : S 0 15 = 0
    · rw [if_pos q]; omega
    · rw [if_neg q] at w2 ⊢; omega
  · rw [e14] at hj
    by_cases q : j = S 0 14
    · subst q
      have f15 : addF S st pl so is 15 (S 0 14) = st := by unfold addF; rw [if_neg (by omega), if_pos ⟨rfl, rfl⟩]
      have f16 : addF S st pl so is 16 (S 0 14) = pl := by unfold addF; rw [if_neg (by omega), if_neg (by omega), if_pos ⟨rfl, rfl⟩]
      have f17 : addF S st pl so is 17 (S 0 14) = so := by unfold addF; rw [if_neg (by omega), if_neg (by omega), if_neg (by omega), if_pos ⟨rfl, rfl⟩]
      have f18 : addF S st pl so is 18 (S 0 14) = is := by unfold addF; rw [if_neg (by omega), if_neg (by omega), if_neg (by omega), if_neg (by omega), if_pos ⟨rfl, rfl⟩]
      rw [f15, f16, f17, f18]
      exact h
    · have e : ∀ x, 15 ≤ x → x ≤ 18 → addF S st pl so is x j = S x j := by
        intro x h1 h2
        unfold addF
        rw [if_neg (by omega), if_neg (by omega), if_neg (by omega), if_neg (by omega), if_neg (by omega)]
      rw [e 15 (by omega) (by omega), e 16 (by omega) (by omega), e 17 (by omega) (by omega), e 18 (by omega) (by omega)]
      exact w3 j (by omega)
/-- what find, strike, known may touch -/
def tF_C (q : Nat) : Prop := 39 ≤ q ∧ q ≤ 43
def tF_M (q k : Nat) : Prop := (q = 0 ∧ (k = 2 ∨ k = 65 ∨ k = 66)) ∨ q = 34
/-- all of S but what speaks of what was found -/
def eqF (S S' : Sp) : Prop := ∀ a b, ¬ ((a = 0 ∧ (b = 14 ∨ b = 15)) ∨ (15 ≤ a ∧ a ≤ 18)) → S' a b = S a b
theorem eqF_add {S : Sp} {st pl so is : Nat} : eqF S (addF S st pl so is) := by
  intro a b h
  unfold addF
  rw [if_neg (by omega), if_neg (by omega), if_neg (by omega), if_neg (by omega), if_neg (by omega)]
theorem eqF_rf {S : Sp} : eqF S S := fun _ _ _ => rfl
theorem op_find {S : Sp} {c m : Hp} (w : wfFnd S) (hC : fndC S c) (hM : fndM S m) (x y : Int32) {is : Nat} (his : is ≤ 1) : ∃ S' r c' m', f11_find x y (nI is) c = some (r, c') ∧ f12_find x y (nI is) m = some (r, m') ∧ wfFnd S' ∧ fndC S' c' ∧ fndM S' m' ∧ eqF S S' ∧ (∀ q k, ¬ tF_C q → c'.1 q k = c.1 q k) ∧ c'.2 = c.2 ∧ (∀ q k, ¬ tF_M q k → m'.1 q k = m.1 q k) ∧ m'.2 = m.2 := by
  have h24 := w.1
  obtain ⟨m1, em, o1, p1⟩ : ∃ m1, wI m 0 2 0 = m1 ∧ (∀ q k, ¬ (q = 0 ∧ k = 2) → m1.1 q k = m.1 q k) ∧ m1.2 = m.2 := ⟨_, rfl, fun q k h => wI_o h, rfl⟩
  have hM1 : fndM S m1 := by
    obtain ⟨a, b, d⟩ := hM
    refine ⟨(o1 _ _ (by omega)).trans a, (o1 _ _ (by omega)).trans b, fun j hj => ?_⟩
    obtain ⟨f, g⟩ := d j hj
    exact ⟨fun z => ⟨(o1 _ _ (by omega)).trans (f z).1, (o1 _ _ (by omega)).trans (f z).2.1, (o1 _ _ (by omega)).trans (f z).2.2⟩, fun z => ⟨(o1 _ _ (by omega)).trans (g z).1, (o1 _ _ (by omega)).trans (g z).2⟩⟩
  have none : ∀ r : Int32, ∃ S' r' c' m', some (r, c) = some (r', c') ∧ some (r, m1) = some (r', m') ∧ wfFnd S' ∧ fndC S' c' ∧ fndM S' m' ∧ eqF S S' ∧ (∀ q k, ¬ tF_C q → c'.1 q k = c.1 q k) ∧ c'.2 = c.2 ∧ (∀ q k, ¬ tF_M q k → m'.1 q k = m.1 q k) ∧ m'.2 = m.2 := fun r => ⟨S, r, c, m1, rfl, rfl, w, hC, hM1, eqF_rf, fun _ _ _ => rfl, rfl, fun q k h => o1 q k (by unfold tF_M at h; omega), p1⟩
  simp only [f11_find, f12_find, em, lt, f12_find_31, f12_find_47, isWithin_eq, isPlace_eq, isIn_eq, Option.bind_some, hM1.1]
  have e24 : (nI (S 0 14) = (24 : Int32)) = (S 0 14 = 24) := by rw [lit, nI_eq (by omega) (by omega)]
  rcases wi_cases x 0 7 (by omega) (by omega) with h | ⟨i, -, hi, rfl, h⟩
  · simp only [show wi x 0 7 = 0 from h, if_true, ite_self]
    exact none _
  · rcases wi_cases y 0 9 (by omega) (by omega) with h2 | ⟨j, -, hj, rfl, h2⟩
    · simp only [show wi (nI i) 0 7 = 1 from h, show wi y 0 9 = 0 from h2, one_ne, if_false, if_true, ite_self]
      exact none _
    · simp only [show wi (nI i) 0 7 = 1 from h, show wi (nI j) 0 9 = 1 from h2, one_ne, if_false, e24]
      by_cases hl : S 0 14 = 24
      · have : f3_add (nI i) (nI j) (nI is) c = some (-1, c) := by
          have hg : ¬ (nI 24 : Int32) < 24 := by decide
          simp only [f3_add, hC.1, hl, hg, if_false]
        simp only [this, hl, if_true, Option.bind_some]
        exact none _
      · have hl : S 0 14 < 24 := by omega
        have hne : ¬ S 0 14 = 24 := by omega
        have hz : (if nI is = (0 : Int32) then (f12_noted (nI i) (nI j) 0 m1).bind (fun z => some (z.1, z.2)) else (f12_noted (nI i) (nI j) 1 m1).bind (fun z => some (z.1, z.2))) = f12_noted (nI i) (nI j) (nI is) m1 := by
          have : is = 0 ∨ is = 1 := by omega
          rcases this with rfl | rfl
          · rw [if_pos (show nI 0 = (0 : Int32) from rfl)]; simp only [noted_eq _ _ _ hM1.1 hl, Option.bind_some]; rfl
          · rw [if_neg (by decide)]; simp only [noted_eq _ _ _ hM1.1 hl, Option.bind_some]; rfl
        have hz' : (if nI is = (0 : Int32) then (f12_noted (nI i) (nI j) 0 m1).bind (fun x => match x with | (r8, h9) => some (r8, h9)) else (f12_noted (nI i) (nI j) 1 m1).bind (fun x => match x with | (r8, h9) => some (r8, h9))) = f12_noted (nI i) (nI j) (nI is) m1 := hz
        simp only [hne, if_false, add_eq (nI i) (nI j) hC.1 hl his, Option.bind_some]
        rw [hz', noted_eq _ _ _ hM1.1 hl]
        refine ⟨addF S 0 i j is, nI (S 0 14), _, _, rfl, rfl, w.add hl (Or.inl ⟨rfl, by omega, by omega, his⟩), ?_, ?_, eqF_add, fun q k h => ?_, rfl, fun q k h => ?_, p1⟩
        · refine hC.add w (by rw [wI_s]) ?_ ?_ ?_ (fun _ => ⟨?_, ?_⟩) (fun q k h1 h2 h3 => ?_)
          · rw [wI_o (by omega), wI_o (by omega), wI_o (by omega), wI_o (by omega), wI_o (by omega)]
          · rw [wI_o (by omega), wI_s]; rfl
          · rw [wI_o (by omega), wI_o (by omega), wI_o (by omega), wI_o (by omega), wI_s]
          · rw [wI_o (by omega), wI_o (by omega), wI_o (by omega), wI_s]
          · rw [wI_o (by omega), wI_o (by omega), wI_s]
          · rw [wI_o (by omega), wI_o (by omega), wI_o (by omega), wI_o (by omega), wI_o (by omega)]
        · refine hM1.add w (by rw [wI_s]) ?_ (fun _ => ⟨?_, ?_, ?_⟩) (fun q => absurd q (by omega)) (fun k h3 => ?_)
          · rw [wI_o (by omega), wI_o (by omega), wI_o (by omega), wI_o (by omega)]
          · rw [wI_o (by omega), wI_o (by omega), wI_o (by omega), wI_s]
          · rw [wI_o (by omega), wI_o (by omega), wI_s]
          · rw [wI_o (by omega), wI_s]
          · rw [wI_o (by omega), wI_o (by omega), wI_o (by omega), wI_o (by omega)]
        · unfold tF_C at h
          rw [wI_o (by omega), wI_o (by omega), wI_o (by omega), wI_o (by omega), wI_o (by omega)]
        · unfold tF_M at h
          rw [wI_o (by omega), wI_o (by omega), wI_o (by omega), wI_o (by omega)]
          exact o1 q k (by omega)
theorem m0_ex2 (m : Hp) : ∃ m1, wI m 0 2 0 = m1 ∧ (∀ q k, ¬ (q = 0 ∧ k = 2) → m1.1 q k = m.1 q k) ∧ m1.2 = m.2 := ⟨_, rfl, fun _ _ h => wI_o h, rfl⟩
theorem fndM.o {S : Sp} {m m1 : Hp} (hM : fndM S m) (o1 : ∀ q k, ¬ (q = 0 ∧ k = 2) → m1.1 q k = m.1 q k) : fndM S m1 := by
  obtain ⟨a, b, d⟩ := hM
  refine ⟨(o1 _ _ (by omega)).trans a, (o1 _ _ (by omega)).trans b, fun j hj => ?_⟩
  obtain ⟨f, g⟩ := d j hj
  exact ⟨fun z => ⟨(o1 _ _ (by omega)).trans (f z).1, (o1 _ _ (by omega)).trans (f z).2.1, (o1 _ _ (by omega)).trans (f z).2.2⟩, fun z => ⟨(o1 _ _ (by omega)).trans (g z).1, (o1 _ _ (by omega)).trans (g z).2⟩⟩
theorem wi_pred (x : Int32) (n : Nat) (hn : n < 2 ^ 30) : wi x 0 (nI n - 1) = bi x (nI n) := by
  unfold wi bi
  by_cases q : x < 0
  · rw [if_pos q, if_pos q]
  · rw [if_neg q, if_neg q]
    obtain ⟨j, hj, rfl⟩ := nI_of q
    by_cases q2 : n ≤ j
    · rw [if_pos (nI_le q2 hj)]
      cases n with
      | zero =>
        have : nI 0 - 1 < nI j := by rw [Int32.lt_iff_toInt_lt, nI_toInt hj, show (nI 0 - 1).toInt = -1 from by decide]; omega
        rw [if_pos this]
      | succ n => rw [nI_pred, if_pos (nI_lt (by omega) hj)]
    · rw [if_neg (nI_ge (by omega) (by omega))]
      cases n with
      | zero => omega
      | succ n => rw [nI_pred, if_neg (nI_nlt (by omega) (by omega))]
theorem op_strike {S : Sp} {c m : Hp} (w : wfFnd S) (hC : fndC S c) (hM : fndM S m) (x : Int32) : ∃ S' r c' m', f11_strike x c = some (r, c') ∧ f12_strike x m = some (r, m') ∧ wfFnd S' ∧ fndC S' c' ∧ fndM S' m' ∧ eqF S S' ∧ (∀ q k, ¬ tF_C q → c'.1 q k = c.1 q k) ∧ c'.2 = c.2 ∧ (∀ q k, ¬ tF_M q k → m'.1 q k = m.1 q k) ∧ m'.2 = m.2 := by
  have h24 := w.1
  obtain ⟨m1, em, o1, p1⟩ := m0_ex2 m
  have hM1 := hM.o o1
  have none : ∀ r : Int32, ∃ S' r' c' m', some (r, c) = some (r', c') ∧ some (r, m1) = some (r', m') ∧ wfFnd S' ∧ fndC S' c' ∧ fndM S' m' ∧ eqF S S' ∧ (∀ q k, ¬ tF_C q → c'.1 q k = c.1 q k) ∧ c'.2 = c.2 ∧ (∀ q k, ¬ tF_M q k → m'.1 q k = m.1 q k) ∧ m'.2 = m.2 := fun r => ⟨S, r, c, m1, rfl, rfl, w, hC, hM1, eqF_rf, fun _ _ _ => rfl, rfl, fun q k h => o1 q k (by unfold tF_M at h; omega), p1⟩
  have e24 : (nI (S 0 14) = (24 : Int32)) = (S 0 14 = 24) := by rw [lit, nI_eq (by omega) (by omega)]
  simp only [f11_strike, f12_strike, em, lt, f12_strike_26, isWithin_eq, Option.bind_some, hM1.1, hC.1, wi_pred x (S 0 14) (by omega), e24]
  rcases bi_cases x (S 0 14) (by omega) with h | ⟨i, hi, rfl, h⟩
  · have hm : (if S 0 14 = 24 then some ((-1 : Int32), m1) else if x < 0 then some (-1, m1) else if x < nI (S 0 14) then (f12_noted (-1) x 0 m1).bind fun x => match x with | (r5, h6) => some (r5, h6) else some (-1, m1)) = some (-1, m1) := by
      unfold bi at h
      by_cases q : x < 0
      · simp only [q, if_true, ite_self]
      · rw [if_neg q] at h
        by_cases q2 : nI (S 0 14) ≤ x
        · have : ¬ x < nI (S 0 14) := Int32.not_lt.mpr q2
          simp only [q, this, if_false, ite_self]
        · rw [if_neg q2] at h; exact absurd h (by decide)
    simp only [h, if_true, hm]
    exact none _
  · simp only [h, one_ne, if_false, nI_pos (show i < 2 ^ 31 by omega), nI_lt hi (show S 0 14 < 2 ^ 31 by omega), if_true]
    by_cases hl : S 0 14 = 24
    · have : f3_addStrike (nI i) c = some (-1, c) := by
        have hg : ¬ (nI 24 : Int32) < 24 := by decide
        simp only [f3_addStrike, f3_add, hC.1, hl, hg, if_false, Option.bind_some, if_true]
      simp only [this, hl, if_true, Option.bind_some]
      exact none _
    · have hl' : S 0 14 < 24 := by omega
      have hne : ¬ nI (S 0 14) = (-1 : Int32) := by
        intro e
        have e := congrArg Int32.toInt e
        rw [nI_toInt (by omega), show ((-1 : Int32)).toInt = -1 from by decide] at e
        omega
      have ea := add_eq (c := c) (n := S 0 14) (is := 1) (nI i) 0 hC.1 hl' (by omega)
      have ea : f3_add (nI i) 0 1 c = _ := ea
      simp only [hl, if_false, f3_addStrike, ea, Option.bind_some, hne, gd, inb_t hl' (show 24 < 2 ^ 31 by omega), if_true, ix_nI (show S 0 14 < 2 ^ 31 by omega), lt, noted_eq _ _ _ hM1.1 hl']
      refine ⟨addF S 1 i 0 0, nI (S 0 14), _, _, rfl, rfl, w.add hl' (Or.inr ⟨rfl, hi⟩), ?_, ?_, eqF_add, fun q k h => ?_, rfl, fun q k h => ?_, p1⟩
      · refine hC.add w ?_ ?_ ?_ ?_ (fun q => absurd q (by omega)) (fun q k h1 h2 h3 => ?_)
        · rw [wI_o (by omega), wI_s]
        · rw [wI_o (by omega), wI_o (by omega), wI_o (by omega), wI_o (by omega), wI_o (by omega), wI_o (by omega)]
        · rw [wI_s]; rfl
        · rw [wI_o (by omega), wI_o (by omega), wI_o (by omega), wI_o (by omega), wI_o (by omega), wI_s]
        · rw [wI_o (by omega), wI_o (by omega), wI_o (by omega), wI_o (by omega), wI_o (by omega), wI_o (by omega)]
      · refine hM1.add w (by rw [wI_s]) ?_ (fun q => absurd q (by omega)) (fun _ => ⟨?_, ?_⟩) (fun k h3 => ?_)
        · rw [wI_o (by omega), wI_o (by omega), wI_o (by omega), wI_o (by omega)]
        · rw [wI_o (by omega), wI_o (by omega), wI_o (by omega), wI_s]
        · rw [wI_o (by omega), wI_o (by omega), wI_s]
        · rw [wI_o (by omega), wI_o (by omega), wI_o (by omega), wI_o (by omega)]
      · unfold tF_C at h
        rw [wI_o (by omega), wI_o (by omega), wI_o (by omega), wI_o (by omega), wI_o (by omega), wI_o (by omega)]
      · unfold tF_M at h
        rw [wI_o (by omega), wI_o (by omega), wI_o (by omega), wI_o (by omega)]
        exact o1 q k (by omega)
