/-! Values of a law's signs: longs up to 10 to the 12. -/
def bnd (x : Int64) : Prop := -1000000000000 ≤ x.toInt ∧ x.toInt ≤ 1000000000000
theorem bT : (1000000000000 : Int64).toInt = 1000000000000 := by decide
theorem bN' : (-1000000000000 : Int64).toInt = -1000000000000 := by decide
def chk (v : Int64) : Option Int64 := if 1000000000000 < v then none else if -1000000000000 ≤ v then some v else none
theorem chk_of {v : Int64} (h : bnd v) : chk v = some v := by
  unfold chk
  rw [if_neg (by rw [Int64.lt_iff_toInt_lt, bT]; have := h.2; omega), if_pos (by rw [Int64.le_iff_toInt_le, bN']; exact h.1)]
theorem chk_bnd {v u : Int64} (h : chk v = some u) : u = v ∧ bnd v := by
  unfold chk at h
  by_cases h1 : 1000000000000 < v
  · rw [if_pos h1] at h; cases h
  · rw [if_neg h1] at h
    by_cases h2 : -1000000000000 ≤ v
    · rw [if_pos h2] at h
      rw [Int64.lt_iff_toInt_lt, bT] at h1
      rw [Int64.le_iff_toInt_le, bN'] at h2
      exact ⟨(Option.some.inj h).symm, h2, by omega⟩
    · rw [if_neg h2] at h; cases h
theorem chk_none {v : Int64} (h : chk v = none) : 1000000000000 < v ∨ ¬ -1000000000000 ≤ v := by
  unfold chk at h
  by_cases h1 : 1000000000000 < v
  · exact Or.inl h1
  · rw [if_neg h1] at h
    by_cases h2 : -1000000000000 ≤ v
    · rw [if_pos h2] at h; cases h
    · exact Or.inr h2
theorem bnd0 : bnd 0 := by unfold bnd; decide
theorem bnd1 : bnd 1 := by unfold bnd; decide
theorem bndI (x : Int32) : bnd x.toInt64 := by
  unfold bnd
  rw [Int32.toInt_toInt64]
  have := Int32.le_toInt x
  have := Int32.toInt_lt x
  omega
theorem bnd_ne {x : Int64} (h : bnd x) : x ≠ Int64.minValue := fun e => by
  have := h.1
  rw [e, Int64.toInt_minValue] at this
  omega
theorem bnd_err {x : Int64} (h : bnd x) : ¬ x = -9223372036854775808 := fun e => by
  have := h.1
  rw [e] at this
  exact absurd this (by decide)
theorem neg_tI {x : Int64} (h : bnd x) : (-x).toInt = - x.toInt := by
  rw [Int64.toInt_neg]
  have := h.1
  have := h.2
  exact Int.bmod_eq_of_le (by omega) (by omega)
def absL (x : Int64) : Int64 := if 0 ≤ x then x else -x
theorem absL_t {x : Int64} (h : bnd x) : (absL x).toInt = (x.toInt.natAbs : Int) := by
  unfold absL
  by_cases q : 0 ≤ x
  · rw [if_pos q]
    rw [Int64.le_iff_toInt_le, Int64.toInt_zero] at q
    omega
  · rw [if_neg q, neg_tI h]
    rw [Int64.le_iff_toInt_le, Int64.toInt_zero] at q
    omega
theorem nz_t {x : Int64} (h : x ≠ 0) : x.toInt ≠ 0 := fun e => h (Int64.toInt_inj.mp (by rw [e, Int64.toInt_zero]))
theorem neg_z {x : Int64} (h : x ≠ 0) : -x ≠ 0 := fun e => h (by
  have := congrArg (fun z : Int64 => -z) e
  simpa using this)
theorem absL_z {x : Int64} (h : x ≠ 0) : absL x ≠ 0 := by
  unfold absL
  split
  · exact h
  · exact neg_z h
theorem mul_bnd {a b : Int64} (ha : bnd a) (hb : bnd b) (hz : a ≠ 0) (h : absL b ≤ 1000000000000 / absL a) : bnd (a * b) := by
  rw [Int64.le_iff_toInt_le, Int64.toInt_div_of_ne_left _ _ (by decide), absL_t hb, absL_t ha, bT] at h
  have hz' := nz_t hz
  have e : (1000000000000 : Int).tdiv (a.toInt.natAbs : Int) = ((1000000000000 / a.toInt.natAbs : Nat) : Int) := by
    rw [show (1000000000000 : Int) = ((1000000000000 : Nat) : Int) from rfl, ← Int.ofNat_tdiv]
  rw [e] at h
  have h2 : b.toInt.natAbs ≤ 1000000000000 / a.toInt.natAbs := by omega
  rw [Nat.le_div_iff_mul_le (by omega)] at h2
  have h3 : (a.toInt * b.toInt).natAbs ≤ 1000000000000 := by rw [Int.natAbs_mul, Nat.mul_comm]; exact h2
  unfold bnd
  rw [Int64.toInt_mul, Int.bmod_eq_of_le (by omega) (by omega)]
  omega
theorem div_bnd {a b : Int64} (ha : bnd a) : bnd (a / b) := by
  unfold bnd
  rw [Int64.toInt_div_of_ne_left _ _ (bnd_ne ha)]
  have h := Int.natAbs_tdiv_le_natAbs a.toInt b.toInt
  have := ha.1
  have := ha.2
  omega
/-- a sign of a law by the class's number of it; none: an error -/
def sg (k : Nat) (a b : Int64) : Option Int64 :=
  if k = 8 then some (if a = 0 then if b = 0 then 0 else 1 else 1)
  else if k = 9 then some (if a = 0 then 0 else if b = 0 then 0 else 1)
  else if k = 11 then some (if b ≤ a then 0 else 1)
  else if k = 12 then some (if b < a then 0 else 1)
  else if k = 13 then some (if a = b then 1 else 0)
  else if k = 14 then some (if a = b then 0 else 1)
  else if k = 15 then some (if a < b then 0 else 1)
  else if k = 16 then some (if a ≤ b then 0 else 1)
  else if k = 17 then chk (a + b)
  else if k = 18 then chk (a - b)
  else if k = 19 then (if a = 0 then some 0 else if b = 0 then some 0 else if absL b ≤ 1000000000000 / absL a then some (a * b) else none)
  else if b = 0 then none else some (a / b)
def bin (k : Nat) : Prop := k = 8 ∨ k = 9 ∨ 11 ≤ k ∧ k ≤ 20
theorem bin_c {k : Nat} (h : bin k) : k = 8 ∨ k = 9 ∨ k = 11 ∨ k = 12 ∨ k = 13 ∨ k = 14 ∨ k = 15 ∨ k = 16 ∨ k = 17 ∨ k = 18 ∨ k = 19 ∨ k = 20 := by unfold bin at h; omega
theorem sg_bnd {k : Nat} {a b u : Int64} (hk : bin k) (ha : bnd a) (hb : bnd b) (h : sg k a b = some u) : bnd u := by
  have h01 : ∀ {p : Prop} [Decidable p], bnd (if p then 0 else 1) := fun {p} _ => by split <;> first | exact bnd0 | exact bnd1
  have h10 : ∀ {p : Prop} [Decidable p], bnd (if p then 1 else 0) := fun {p} _ => by split <;> first | exact bnd0 | exact bnd1
  rcases bin_c hk with rfl | rfl | rfl | rfl | rfl | rfl | rfl | rfl | rfl | rfl | rfl | rfl <;> simp only [sg, Nat.reduceEqDiff, if_true, if_false] at h
  · cases h
    split
    · exact h01
    · exact bnd1
  · cases h
    split
    · exact bnd0
    · exact h01
  · cases h; exact h01
  · cases h; exact h01
  · cases h; exact h10
  · cases h; exact h01
  · cases h; exact h01
  · cases h; exact h01
  · rw [(chk_bnd h).1]; exact (chk_bnd h).2
  · rw [(chk_bnd h).1]; exact (chk_bnd h).2
  · by_cases q1 : a = 0
    · rw [if_pos q1] at h; cases h; exact bnd0
    · rw [if_neg q1] at h
      by_cases q2 : b = 0
      · rw [if_pos q2] at h; cases h; exact bnd0
      · rw [if_neg q2] at h
        by_cases q3 : absL b ≤ 1000000000000 / absL a
        · rw [if_pos q3] at h; cases h; exact mul_bnd ha hb q1 q3
        · rw [if_neg q3] at h; cases h
  · by_cases q1 : b = 0
    · rw [if_pos q1] at h; cases h
    · rw [if_neg q1] at h; cases h; exact div_bnd ha
theorem truth0 : f5_truth 0 = some 0 := rfl
theorem truth1 : f5_truth 1 = some 1 := rfl
theorem product_eq {a b : Int64} (ha : bnd a) (hb : bnd b) : ∃ v, f5_product a b = some v ∧ chk v = sg 19 a b := by
  have hmin : chk (-9223372036854775808) = none := by decide
  have h0 : chk 0 = some 0 := by decide
  simp only [sg, Nat.reduceEqDiff, if_true, if_false, f5_product, lg_cmp_eq]
  by_cases q1 : a = 0
  · simp only [q1, if_true]; exact ⟨_, rfl, h0⟩
  · by_cases q2 : b = 0
    · simp only [q1, q2, if_true, if_false]; exact ⟨_, rfl, h0⟩
    · simp only [q1, q2, if_false]
      have e : (if 0 ≤ lg_cmp b 0 then f5_product_26 a b b else f5_product_26 a b (-b)) = f5_product_26 a b (absL b) := by
        unfold absL
        simp only [lg_cmp_ge]
        split <;> rfl
      have e2 : f5_product_26 a b (absL b) = f5_product_41 a b (absL a) 1000000000000 (absL b) := by
        unfold f5_product_26
        rw [show absL a = if 0 ≤ a then a else -a from rfl]
        simp only [lg_cmp_ge]
        split <;> rfl
      rw [e, e2]
      simp only [f5_product_41, gd, decide_eq_false (absL_z q1), Bool.not_false, if_true, lg_cmp_le]
      by_cases q3 : absL b ≤ 1000000000000 / absL a
      · rw [if_pos q3, if_pos q3]; exact ⟨_, rfl, chk_of (mul_bnd ha hb q1 q3)⟩
      · rw [if_neg q3, if_neg q3]; exact ⟨_, rfl, hmin⟩
theorem sign_eq {k : Nat} {a b : Int64} (hk : bin k) (ha : bnd a) (hb : bnd b) : ∃ v, f5_sign (nI k) a b = some v ∧ chk v = sg k a b := by
  have hmin : chk (-9223372036854775808) = none := by decide
  have c01 : ∀ {p : Prop} [Decidable p], chk (if p then 0 else 1) = some (if p then 0 else 1) := fun {p} _ => chk_of (by split <;> first | exact bnd0 | exact bnd1)
  have c10 : ∀ {p : Prop} [Decidable p], chk (if p then 1 else 0) = some (if p then 1 else 0) := fun {p} _ => chk_of (by split <;> first | exact bnd0 | exact bnd1)
  rcases bin_c hk with rfl | rfl | rfl | rfl | rfl | rfl | rfl | rfl | rfl | rfl | rfl | rfl
  all_goals (simp only [f5_sign, f5_sign_76, f5_sign_81, f5_sign_101, f5_sign_102, f5_sign_117, f5_sign_132, f5_sign_147, f5_sign_162, f5_sign_177, f5_sign_192, truth0, truth1, Option.bind_some, lg_cmp_eq, lg_cmp_ge, lg_cmp_le, lg_cmp_gt, lg_cmp_lt]; simp (disch := omega) only [lit, nI_eq, Nat.reduceEqDiff, if_true, if_false])
  · refine ⟨if a = 0 then if b = 0 then 0 else 1 else 1, ?_, ?_⟩
    · split
      · split <;> rfl
      · rfl
    · exact chk_of (sg_bnd (k := 8) (Or.inl rfl) ha hb rfl)
  · refine ⟨if a = 0 then 0 else if b = 0 then 0 else 1, ?_, ?_⟩
    · split
      · rfl
      · split <;> rfl
    · exact chk_of (sg_bnd (k := 9) (Or.inr (Or.inl rfl)) ha hb rfl)
  · exact ⟨if b ≤ a then 0 else 1, by split <;> rfl, c01⟩
  · exact ⟨if b < a then 0 else 1, by split <;> rfl, c01⟩
  · exact ⟨if a = b then 1 else 0, by split <;> rfl, c10⟩
  · exact ⟨if a = b then 0 else 1, by split <;> rfl, c01⟩
  · exact ⟨if a < b then 0 else 1, by split <;> rfl, c01⟩
  · exact ⟨if a ≤ b then 0 else 1, by split <;> rfl, c01⟩
  · exact ⟨_, rfl, rfl⟩
  · exact ⟨_, rfl, rfl⟩
  · obtain ⟨v, e, h⟩ := product_eq ha hb
    exact ⟨v, by rw [e]; rfl, h⟩
  · by_cases q : b = 0
    · rw [if_pos q]
      refine ⟨_, rfl, ?_⟩
      simp only [sg, Nat.reduceEqDiff, if_false, q, if_true]
      exact hmin
    · rw [if_neg q]
      refine ⟨a / b, ?_, ?_⟩
      · simp only [gd, decide_eq_false q, Bool.not_false, if_true]
      · simp only [sg, Nat.reduceEqDiff, if_false, q]
        exact chk_of (div_bnd ha)
