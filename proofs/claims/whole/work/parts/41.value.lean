/-! The reference's value of one knot. -/
def frV (m m' : Hp) : Prop := (∀ q j, ¬ (q = 0 ∧ j = 48) → m'.1 q j = m.1 q j) ∧ m'.2 = m.2
theorem frV.rf {m : Hp} : frV m m := ⟨fun _ _ _ => rfl, rfl⟩
theorem frV.w {m : Hp} {v : Int32} : frV m (wI m 0 48 v) := ⟨fun q j h => wI_o h, rfl⟩
/-- what one step does to the mark of an error -/
def EM (m : Hp) (v : Int64) (m' : Hp) (o : Option Int64) : Prop := frV m m' ∧ (m.1 0 48 = 0 → (∀ u, o = some u → v = u ∧ m'.1 0 48 = 0) ∧ (o = none → m'.1 0 48 = 1)) ∧ (m.1 0 48 = 1 → m'.1 0 48 = 1)
theorem EM.ok {m : Hp} {v : Int64} : EM m v m (some v) := ⟨frV.rf, fun h => ⟨fun u e => ⟨Option.some.inj e, h⟩, fun e => by cases e⟩, fun h => h⟩
theorem bz0 : bz 0 = true := by decide
theorem bz1 : bz 1 = true := by decide
theorem EM.er {m : Hp} {v : Int64} {o : Option Int64} (h : m.1 0 48 = 1 ∨ o = none) : EM m v (wI m 0 48 1) o := by
  refine ⟨frV.w, fun e => ⟨fun u q => ?_, fun _ => wI_s⟩, fun _ => wI_s⟩
  rcases h with h | h
  · rw [h] at e; exact absurd e (by decide)
  · rw [h] at q; cases q
theorem EM.go {m : Hp} {v : Int64} {o : Option Int64} (h : m.1 0 48 = 0) (e : o = some v) : EM m v (wI m 0 48 0) o := by
  refine ⟨frV.w, fun _ => ⟨fun u q => ?_, fun q => ?_⟩, fun q => ?_⟩
  · rw [e] at q; cases q; exact ⟨rfl, wI_s⟩
  · rw [e] at q; cases q
  · rw [h] at q; exact absurd q (by decide)
theorem bounded_ex {v : Int64} {m : Hp} (he : m.1 0 48 = 0 ∨ m.1 0 48 = 1) : ∃ v' m', f12_bounded v m = some (v', m') ∧ EM m v' m' (chk v) := by
  simp only [f12_bounded, f12_bounded_24, f12_bounded_29, lt, gd, bz0, bz1, if_true, wI_s, one_ne, if_false, lg_cmp_gt, lg_cmp_ge]
  rcases he with h | h
  · simp only [h, if_true]
    by_cases q1 : 1000000000000 < v
    · rw [if_pos q1]; exact ⟨_, _, rfl, EM.er (Or.inr (by unfold chk; rw [if_pos q1]))⟩
    · rw [if_neg q1]
      by_cases q2 : -1000000000000 ≤ v
      · rw [if_pos q2]; exact ⟨_, _, rfl, EM.go h (by unfold chk; rw [if_neg q1, if_pos q2])⟩
      · rw [if_neg q2]; exact ⟨_, _, rfl, EM.er (Or.inr (by unfold chk; rw [if_neg q1, if_neg q2]))⟩
  · simp only [h, one_ne, if_false]; exact ⟨_, _, rfl, EM.er (Or.inl h)⟩
theorem times_ex {a b : Int64} {m : Hp} (he : m.1 0 48 = 0 ∨ m.1 0 48 = 1) : ∃ v' m', f12_times a b m = some (v', m') ∧ EM m v' m' (sg 19 a b) := by
  have c0 : ∀ o, (o = some (a * b)) → ∃ v' m', f12_times_49 a b 0 m = some (v', m') ∧ EM m v' m' o := by
    intro o ho
    simp only [f12_times_49, f12_times_64, f12_times_69, lt, gd, bz0, bz1, if_true, wI_s, one_ne, if_false]
    rcases he with h | h
    · rw [if_pos h]; exact ⟨_, _, rfl, EM.go h ho⟩
    · rw [if_neg (by rw [h]; decide)]; exact ⟨_, _, rfl, EM.er (Or.inl h)⟩
  have c1 : ∀ o, (o = none) → ∃ v' m', f12_times_49 a b 1 m = some (v', m') ∧ EM m v' m' o := by
    intro o ho
    simp only [f12_times_49, f12_times_64, f12_times_69, lt, gd, bz0, bz1, if_true, wI_s, one_ne, if_false]
    split <;> exact ⟨_, _, rfl, EM.er (Or.inr ho)⟩
  simp only [sg, Nat.reduceEqDiff, if_true, if_false, f12_times, f12_times_48, lg_cmp_eq]
  by_cases q1 : a = 0
  · rw [if_pos q1, if_pos q1]
    exact c0 _ (by rw [q1, Int64.zero_mul])
  · rw [if_neg q1, if_neg q1]
    by_cases q2 : b = 0
    · rw [if_pos q2, if_pos q2]
      exact c0 _ (by rw [q2, Int64.mul_zero])
    · rw [if_neg q2, if_neg q2]
      have e : (if 0 ≤ lg_cmp b 0 then f12_times_24 a b b m else f12_times_24 a b (-b) m) = f12_times_24 a b (absL b) m := by
        unfold absL
        simp only [lg_cmp_ge]
        split <;> rfl
      have e2 : f12_times_24 a b (absL b) m = f12_times_39 a b (absL a) 1000000000000 (absL b) m := by
        unfold f12_times_24
        rw [show absL a = if 0 ≤ a then a else -a from rfl]
        simp only [lg_cmp_ge]
        split <;> rfl
      rw [e, e2]
      simp only [f12_times_39, f12_times_48, gd, decide_eq_false (absL_z q1), Bool.not_false, if_true, lg_cmp_le]
      by_cases q3 : absL b ≤ 1000000000000 / absL a
      · rw [if_pos q3, if_pos q3]; exact c0 _ rfl
      · rw [if_neg q3, if_neg q3]; exact c1 _ rfl
def mk (k : Nat) : Nat := if k = 0 then 0 else if k ≤ 7 then 1 else if k = 8 then 4 else if k = 9 then 3 else if k = 10 then 2 else k - 6
theorem value_0 {m : Hp} {i : Nat} (hi : i < 64) (h : m.1 17 i = nI 0) : f12_valueOf (nI i) m = some ((m.1 18 i).toInt64, m) := by
  simp only [f12_valueOf, gd, inb_t (show i < 128 by omega) (by omega), if_true, ix_nI (show i < 2 ^ 31 by omega), h, show ((nI 0 : Int32) = 0) = True from by decide]
theorem value_1 {m : Hp} {i k : Nat} (hi : i < 64) (h : m.1 17 i = nI 1) (h2 : m.1 18 i = nI k) (hk : k < 7) : f12_valueOf (nI i) m = some (m.2.1 22 k, m) := by
  simp only [f12_valueOf, gd, inb_t (show i < 128 by omega) (by omega), if_true, ix_nI (show i < 2 ^ 31 by omega), h, show ((nI 1 : Int32) = 0) = False from by decide, show ((nI 1 : Int32) = 1) = True from by decide, if_false, h2, inb_t hk (by omega), ix_nI (show k < 2 ^ 31 by omega)]
theorem value_2 {m : Hp} {i a : Nat} (hi : i < 64) (h : m.1 17 i = nI 2) (h2 : m.1 18 i = nI a) (ha : a < 64) : f12_valueOf (nI i) m = some (if m.2.1 23 a = 0 then 1 else 0, m) := by
  simp only [f12_valueOf, gd, lt, inb_t (show i < 128 by omega) (by omega), if_true, ix_nI (show i < 2 ^ 31 by omega), h, show ((nI 2 : Int32) = 0) = False from by decide, show ((nI 2 : Int32) = 1) = False from by decide, show ((nI 2 : Int32) = 2) = True from by decide, if_false, h2, inb_t ha (by omega), ix_nI (show a < 2 ^ 31 by omega), lg_cmp_eq]
  split <;> rfl
theorem value_b {m : Hp} {i a b k : Nat} (hi : i < 64) (hk : bin k) (h : m.1 17 i = nI (mk k)) (h2 : m.1 18 i = nI a) (h3 : m.1 19 i = nI b) (ha : a < 64) (hb : b < 64) (he : m.1 0 48 = 0 ∨ m.1 0 48 = 1) : ∃ v m', f12_valueOf (nI i) m = some (v, m') ∧ EM m v m' (sg k (m.2.1 23 a) (m.2.1 23 b)) := by
  have base := fun (x : Int32) (hx : m.1 17 i = x) (n0 : ¬ x = 0) (n1 : ¬ x = 1) (n2 : ¬ x = 2) => by
    have q : f12_valueOf (nI i) m = f12_valueOf (nI i) m := rfl
    conv at q => rhs; simp only [f12_valueOf, gd, lt, inb_t (show i < 128 by omega) (show 128 < 2 ^ 31 by omega), if_true, ix_nI (show i < 2 ^ 31 by omega), hx, n0, n1, n2, if_false, h2, h3, inb_t ha (show 64 < 2 ^ 31 by omega), inb_t hb (show 64 < 2 ^ 31 by omega), ix_nI (show a < 2 ^ 31 by omega), ix_nI (show b < 2 ^ 31 by omega)]
    exact q
  generalize m.2.1 23 a = x at base ⊢
  generalize m.2.1 23 b = y at base ⊢
  have z0 : (nI 0 : Int32) = 0 := rfl
  have z1 : (nI 1 : Int32) = 1 := rfl
  rcases bin_c hk with rfl | rfl | rfl | rfl | rfl | rfl | rfl | rfl | rfl | rfl | rfl | rfl
  all_goals (rw [base _ h (by decide) (by decide) (by decide)]; simp only [mk, Nat.reduceEqDiff, Nat.reduceLeDiff, Nat.reduceSub, if_true, if_false]; simp (disch := omega) only [lit, nI_eq, Nat.reduceEqDiff, if_true, if_false]; simp only [z0, z1, lg_cmp_eq, sg, Nat.reduceEqDiff, if_true, if_false])
  · by_cases q : x = 0
    · by_cases q2 : y = 0
      · simp only [q, q2, if_true]; exact ⟨_, _, rfl, EM.ok⟩
      · simp only [q, q2, if_true, if_false, f12_valueOf_188]; exact ⟨_, _, rfl, EM.ok⟩
    · simp only [q, if_false, f12_valueOf_188]; exact ⟨_, _, rfl, EM.ok⟩
  · by_cases q : x = 0
    · simp only [q, if_true, f12_valueOf_173]; exact ⟨_, _, rfl, EM.ok⟩
    · by_cases q2 : y = 0
      · simp only [q, q2, if_true, if_false, f12_valueOf_173]; exact ⟨_, _, rfl, EM.ok⟩
      · simp only [q, q2, if_false]; exact ⟨_, _, rfl, EM.ok⟩
  · simp only [f12_compares, lg_cmp_eq, lg_cmp_ge, lg_cmp_le, lg_cmp_gt, lg_cmp_lt]
    simp (disch := omega) only [lit, nI_eq, Nat.reduceEqDiff, if_true, if_false]
    by_cases q : y ≤ x
    · simp only [q, if_true, Option.bind_some]; (try simp (disch := omega) only [nI_eq, Nat.reduceEqDiff, if_true, if_false]); exact ⟨_, _, rfl, EM.ok⟩
    · simp only [q, if_false, Option.bind_some]; (try simp (disch := omega) only [nI_eq, Nat.reduceEqDiff, if_true, if_false]); exact ⟨_, _, rfl, EM.ok⟩
  · simp only [f12_compares, lg_cmp_eq, lg_cmp_ge, lg_cmp_le, lg_cmp_gt, lg_cmp_lt]
    simp (disch := omega) only [lit, nI_eq, Nat.reduceEqDiff, if_true, if_false]
    by_cases q : y < x
    · simp only [q, if_true, Option.bind_some]; (try simp (disch := omega) only [nI_eq, Nat.reduceEqDiff, if_true, if_false]); exact ⟨_, _, rfl, EM.ok⟩
    · simp only [q, if_false, Option.bind_some]; (try simp (disch := omega) only [nI_eq, Nat.reduceEqDiff, if_true, if_false]); exact ⟨_, _, rfl, EM.ok⟩
  · simp only [f12_compares, lg_cmp_eq, lg_cmp_ge, lg_cmp_le, lg_cmp_gt, lg_cmp_lt]
    simp (disch := omega) only [lit, nI_eq, Nat.reduceEqDiff, if_true, if_false]
    by_cases q : x = y
    · simp only [q, if_true, Option.bind_some]; (try simp (disch := omega) only [nI_eq, Nat.reduceEqDiff, if_true, if_false]); exact ⟨_, _, rfl, EM.ok⟩
    · simp only [q, if_false, Option.bind_some]; (try simp (disch := omega) only [nI_eq, Nat.reduceEqDiff, if_true, if_false]); exact ⟨_, _, rfl, EM.ok⟩
  · simp only [f12_compares, lg_cmp_eq, lg_cmp_ge, lg_cmp_le, lg_cmp_gt, lg_cmp_lt]
    simp (disch := omega) only [lit, nI_eq, Nat.reduceEqDiff, if_true, if_false]
    by_cases q : x = y
    · simp only [q, if_true, Option.bind_some]; (try simp (disch := omega) only [nI_eq, Nat.reduceEqDiff, if_true, if_false]); exact ⟨_, _, rfl, EM.ok⟩
    · simp only [q, if_false, Option.bind_some]; (try simp (disch := omega) only [nI_eq, Nat.reduceEqDiff, if_true, if_false]); exact ⟨_, _, rfl, EM.ok⟩
  · simp only [f12_compares, lg_cmp_eq, lg_cmp_ge, lg_cmp_le, lg_cmp_gt, lg_cmp_lt]
    simp (disch := omega) only [lit, nI_eq, Nat.reduceEqDiff, if_true, if_false]
    by_cases q : x < y
    · simp only [q, if_true, Option.bind_some]; (try simp (disch := omega) only [nI_eq, Nat.reduceEqDiff, if_true, if_false]); exact ⟨_, _, rfl, EM.ok⟩
    · simp only [q, if_false, Option.bind_some]; (try simp (disch := omega) only [nI_eq, Nat.reduceEqDiff, if_true, if_false]); exact ⟨_, _, rfl, EM.ok⟩
  · simp only [f12_compares, lg_cmp_eq, lg_cmp_ge, lg_cmp_le, lg_cmp_gt, lg_cmp_lt]
    simp (disch := omega) only [lit, nI_eq, Nat.reduceEqDiff, if_true, if_false]
    by_cases q : x ≤ y
    · simp only [q, if_true, Option.bind_some]; (try simp (disch := omega) only [nI_eq, Nat.reduceEqDiff, if_true, if_false]); exact ⟨_, _, rfl, EM.ok⟩
    · simp only [q, if_false, Option.bind_some]; (try simp (disch := omega) only [nI_eq, Nat.reduceEqDiff, if_true, if_false]); exact ⟨_, _, rfl, EM.ok⟩
  · obtain ⟨v, m', e, h⟩ := bounded_ex (v := x + y) he
    exact ⟨v, m', by rw [e]; rfl, h⟩
  · obtain ⟨v, m', e, h⟩ := bounded_ex (v := x - y) he
    exact ⟨v, m', by rw [e]; rfl, h⟩
  · obtain ⟨v, m', e, h⟩ := times_ex (a := x) (b := y) he
    exact ⟨v, m', by rw [e]; rfl, h⟩
  · simp only [f12_valueOf_235, f12_valueOf_240, lt, gd, bz0, bz1, if_true, wI_s, one_ne, if_false]
    rcases he with h | h
    · rw [if_pos h]
      by_cases q : y = 0
      · simp only [q, if_true]; exact ⟨_, _, rfl, EM.er (Or.inr rfl)⟩
      · simp only [q, if_false, decide_false, Bool.not_false, if_true]; exact ⟨_, _, rfl, EM.go h rfl⟩
    · rw [if_neg (by rw [h]; decide)]; exact ⟨_, _, rfl, EM.er (Or.inl h)⟩
