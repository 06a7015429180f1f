/-! Calls that only look at the boxes. -/
theorem wI_s {h : Hp} {p k : Nat} {v : Int32} : (wI h p k v).1 p k = v := up2_s
theorem wI_2 {h : Hp} {p k : Nat} {v : Int32} : (wI h p k v).2 = h.2 := rfl
theorem wI_o {h : Hp} {p k q j : Nat} {v : Int32} (e : ¬ (q = p ∧ j = k)) : (wI h p k v).1 q j = h.1 q j := up2_of e
def wi (x lo hi : Int32) : Int32 := if x < lo then 0 else if hi < x then 0 else 1
theorem one_ne : ((1 : Int32) = 0) = False := by simp
theorem isWithin_eq (x lo hi : Int32) : f11_isWithin x lo hi = some (wi x lo hi) := by
  unfold f11_isWithin wi f11_isWithin_14
  split
  · rfl
  · split <;> rfl
theorem isIn_eq (x lo hi : Int32) : f12_isIn x lo hi = some (wi x lo hi) := by
  unfold f12_isIn wi f12_isIn_14
  split
  · rfl
  · split <;> rfl
theorem wi_cases (x : Int32) (lo hi : Nat) (hl : lo < 2 ^ 31) (h : hi < 2 ^ 31) : wi x (nI lo) (nI hi) = 0 ∨ ∃ j, lo ≤ j ∧ j ≤ hi ∧ x = nI j ∧ wi x (nI lo) (nI hi) = 1 := by
  unfold wi
  by_cases h1 : x < nI lo
  · rw [if_pos h1]; exact Or.inl rfl
  · rw [if_neg h1]
    by_cases h2 : nI hi < x
    · rw [if_pos h2]; exact Or.inl rfl
    · rw [if_neg h2]
      rw [Int32.lt_iff_toInt_lt] at h1 h2
      rw [nI_toInt hl] at h1
      rw [nI_toInt h] at h2
      right
      have hx : ¬ x < 0 := by rw [Int32.lt_iff_toInt_lt]; show ¬ x.toInt < 0; omega
      obtain ⟨j, hj, rfl⟩ := nI_of hx
      rw [nI_toInt hj] at h1 h2
      exact ⟨j, by omega, by omega, rfl, rfl⟩
theorem isPlace_eq (x : Int32) : f12_isPlace x = some (wi x 0 7) := by
  unfold f12_isPlace wi f12_isPlace_14
  by_cases h0 : x < 0
  · rw [if_pos h0, if_pos h0]
  · rw [if_neg h0, if_neg h0]
    have e : (8 ≤ x) ↔ (7 < x) := by
      rw [Int32.le_iff_toInt_le, Int32.lt_iff_toInt_lt]; show (8 : Int) ≤ x.toInt ↔ (7 : Int) < x.toInt; omega
    by_cases h1 : 7 < x
    · rw [if_pos h1, if_pos (e.mpr h1)]
    · rw [if_neg h1, if_neg (fun q => h1 (e.mp q))]
theorem isTooth_eq (x : Int32) : f12_isTooth x = some (wi x 1 9) := by
  unfold f12_isTooth wi
  split
  · rfl
  · split <;> rfl
/-- a number of a box, or none -/
def bi (x n : Int32) : Int32 := if x < 0 then 0 else if n ≤ x then 0 else 1
theorem bi_cases (x : Int32) (n : Nat) (hn : n < 2 ^ 31) : bi x (nI n) = 0 ∨ ∃ j, j < n ∧ x = nI j ∧ bi x (nI n) = 1 := by
  unfold bi
  rcases pk_ix x hn with h | h | ⟨j, hj, rfl⟩
  · rw [if_pos h]; exact Or.inl rfl
  · left; split
    · rfl
    · rfl
  · right
    refine ⟨j, hj, rfl, ?_⟩
    rw [if_neg (nI_pos (by omega)), if_neg (nI_ge hj hn)]
theorem isBoxC (x : Int32) (c : Hp) : f11_isBox x c = some (bi x (c.1 6 1)) := by
  unfold f11_isBox bi f11_isBox_19
  split
  · rfl
  · split <;> rfl
theorem isBoxM (x : Int32) (m : Hp) : f12_isBox x m = some (bi x (m.1 0 12)) := by
  unfold f12_isBox bi f12_isBox_16
  split
  · rfl
  · split <;> rfl
theorem isOf_eq (x p : Int32) : f12_isOf x p = some (if (x >>> (p &&& 31)) &&& 1 = 1 then 1 else 0) := by
  unfold f12_isOf; split <;> rfl
/-- the reference's own scratch: a call begins with it -/
def m0 (m : Hp) : Hp := wI m 0 2 0
theorem m0_fr (m : Hp) : frM m (m0 m) := frM.rf.w (by unfold scrM; omega)
theorem m0_ex (m : Hp) : ∃ m1, wI m 0 2 0 = m1 ∧ frM m m1 := ⟨m0 m, rfl, m0_fr m⟩
def lgo (S : Sp) (i : Nat) : Bool := decide (S 6 i = 0 ∧ 0 < S 2 i)
theorem plain_ex (m : Hp) : ∃ m', f12_plainTried m = some m' ∧ frM m m' ∧ m'.1 0 58 = 0 ∧ m'.1 0 59 = 0 ∧ m'.1 0 60 = 0 ∧ m'.1 0 61 = 0 ∧ m'.1 0 62 = -1 ∧ (∀ q k, ¬ (q = 0 ∧ 58 ≤ k ∧ k ≤ 62) → m'.1 q k = m.1 q k) ∧ m'.2 = m.2 := by
  refine ⟨_, rfl, ?_, ?_⟩
  · exact ((((frM.rf.w (by unfold scrM; omega)).w (by unfold scrM; omega)).w (by unfold scrM; omega)).w (by unfold scrM; omega)).w (by unfold scrM; omega)
  · refine ⟨?_, ?_, ?_, ?_, ?_, ?_, rfl⟩
    · rw [wI_o (by omega), wI_o (by omega), wI_o (by omega), wI_o (by omega), wI_s]
    · rw [wI_o (by omega), wI_o (by omega), wI_o (by omega), wI_s]
    · rw [wI_o (by omega), wI_o (by omega), wI_s]
    · rw [wI_o (by omega), wI_s]
    · rw [wI_s]
    · intro q k h
      rw [wI_o (by omega), wI_o (by omega), wI_o (by omega), wI_o (by omega), wI_o (by omega)]
theorem heardBy_eq (pin fl ms : Int32) : f12_heardBy pin fl ms = some (hrd pin fl ms) := by
  unfold f12_heardBy hrd lt
  rw [isOf_eq]
  by_cases h0 : pin = 0
  · simp only [h0, if_true]
  · by_cases h1 : (ms >>> (pin &&& 31)) &&& 1 = 1
    · simp only [h0, h1, if_true, if_false]; rfl
    · simp only [h0, h1, if_false, if_true, Option.bind_some]
      have e : (pin + fl / 5 ≤ 9) ↔ (pin + fl / 5 < 9 ∨ pin + fl / 5 = 9) := by
        rw [Int32.le_iff_toInt_le, Int32.lt_iff_toInt_lt, ← Int32.toInt_inj]; omega
      by_cases h2 : pin + fl / 5 < 9
      · rw [if_pos (e.mpr (Or.inl h2)), if_pos h2]
      · rw [if_neg h2]
        by_cases h3 : pin + fl / 5 = 9
        · rw [if_pos (e.mpr (Or.inr h3)), h3]
        · rw [if_neg (fun q => (e.mp q).elim h2 h3)]
/-- what is heard of box i, in the part s of the reference's rows -/
theorem heardIn_eq {m : Hp} {s i k : Nat} (hs : s ≤ 1) (hi : i < 6) (hk : k < 8) (hp : m.1 0 61 = 0) : f12_heardIn (nI s) (nI i) (nI k) m = some (hrd (m.1 8 (8 * i + k)) (m.1 25 (6 * s + i)) (m.1 29 (6 * s + i))) := by
  have e1 : (8 * nI i + nI k : Int32) = nI (8 * i + k) := by rw [lit, pk_mul, nI_add]
  have e2 : (6 * nI s + nI i : Int32) = nI (6 * s + i) := by rw [lit, pk_mul, nI_add]
  unfold f12_heardIn f12_lacksOf gd
  rw [e1, e2, inb_t (show 8 * i + k < 96 by omega) (by omega), inb_t (show 6 * s + i < 12 by omega) (by omega), ix_nI (by omega), ix_nI (by omega), if_pos rfl, if_pos rfl, if_pos hp, if_pos rfl, Option.bind_some, heardBy_eq]
  rfl
theorem heardIn_nI {S : Sp} {m : Hp} {i k : Nat} (w : wfNow S) (hM : nowM S m) (hi : i < S 0 0) (hk : k < 8) (hp : m.1 0 61 = 0) : f12_heardIn 0 (nI i) (nI k) m = some (nI (hS S i k)) := by
  have hn := w.1
  obtain ⟨b1, b2, b3, b4, b5, b6, b7, b8, b9⟩ := hM.2.2.2.2 i hi
  obtain ⟨w1, w2, w3, w4, w5, w6, w7, w8, w9⟩ := w.2.2.2.2 i hi
  have := heardIn_eq (m := m) (s := 0) (i := i) (k := k) (by omega) (by omega) hk hp
  rw [show (0 : Int32) = nI 0 from rfl, this]
  rw [show 6 * 0 + i = i by omega, b9 k hk, b4, b7, hrd_nI (w9 k hk) w3 w4.1]
  rfl
theorem heardNow_nI {S : Sp} {c : Hp} {i k : Nat} (w : wfNow S) (hC : nowC S c) (hi : i < S 0 0) (hk : k < 8) : f0_heardNow (8 + 2 * i) (nI k) c = some (nI (hS S i k)) := by
  obtain ⟨b1, b2, b3, b4, b5, b6, b7, b8, b9, b10⟩ := hC.2.2.2.2 i hi
  obtain ⟨w1, w2, w3, w4, w5, w6, w7, w8, w9⟩ := w.2.2.2.2 i hi
  rw [f0_heardNow_eq _ _ _ hk, b10 k hk, b5, b8, hrd_nI (w9 k hk) w3 w4.1]
  rfl
theorem op_heard {S : Sp} {c m : Hp} (w : wfNow S) (hC : nowC S c) (hM : nowM S m) (x y : Int32) : ∃ r m', f11_heard x y c = some r ∧ f12_heard x y m = some (r, m') ∧ frM m m' := by
  have hn := w.1
  obtain ⟨m1, e1, f1, p58, p59, p60, p61, p62, pf, pj⟩ := plain_ex (m0 m)
  have fr := (m0_fr m).tr f1
  have hM1 := hM.fr w fr
  simp only [f11_heard, f12_heard, lt, f11_heard_34, f12_heard_34, isBoxC, isBoxM, isWithin_eq, isPlace_eq, hC.1, show f12_plainTried (wI m 0 2 0) = some m1 from e1, Option.bind_some, hM1.1]
  rcases bi_cases x (S 0 0) (by omega) with h | ⟨i, hi, rfl, h⟩
  · simp only [h, if_true]; exact ⟨_, _, rfl, rfl, fr⟩
  · rcases wi_cases y 0 7 (by omega) (by omega) with h2 | ⟨k, -, hk, rfl, h2⟩
    · simp only [h, show wi y 0 7 = 0 from h2, if_true, one_ne, if_false]; exact ⟨_, _, rfl, rfl, fr⟩
    · simp only [h, show wi (nI k) 0 7 = 1 from h2, one_ne, if_false, gd, inb_t (show i < 6 by omega) (by omega), ix_nI (show i < 2 ^ 31 by omega), if_true, heardNow_nI w hC hi (show k < 8 by omega), heardIn_nI w hM1 hi (show k < 8 by omega) p61, Option.bind_some]
      exact ⟨_, _, rfl, rfl, fr⟩
theorem op_pin {S : Sp} {c m : Hp} (w : wfNow S) (hC : nowC S c) (hM : nowM S m) (x y : Int32) : ∃ r m', f11_pin x y c = some r ∧ f12_pin x y m = some (r, m') ∧ frM m m' := by
  have hn := w.1
  obtain ⟨m1, em, fr⟩ := m0_ex m
  have hM1 := hM.fr w fr
  simp only [f11_pin, f12_pin, em, lt, f11_pin_35, f12_pin_34, isBoxC, isBoxM, isWithin_eq, isPlace_eq, hC.1, Option.bind_some, hM1.1]
  rcases bi_cases x (S 0 0) (by omega) with h | ⟨i, hi, rfl, h⟩
  · simp only [h, if_true]; exact ⟨_, _, rfl, rfl, fr⟩
  · rcases wi_cases y 0 7 (by omega) (by omega) with h2 | ⟨k, -, hk, rfl, h2⟩
    · simp only [h, show wi y 0 7 = 0 from h2, if_true, one_ne, if_false]; exact ⟨_, _, rfl, rfl, fr⟩
    · have e1 : (8 * nI i + nI k : Int32) = nI (8 * i + k) := by rw [lit, pk_mul, nI_add]
      simp only [h, show wi (nI k) 0 7 = 1 from h2, one_ne, if_false, gd, inb_t (show i < 6 by omega) (by omega), inb_t (show k < 8 by omega) (by omega), ix_nI (show i < 2 ^ 31 by omega), ix_nI (show k < 2 ^ 31 by omega), if_true, e1, inb_t (show 8 * i + k < 96 by omega) (by omega), ix_nI (show 8 * i + k < 2 ^ 31 by omega)]
      refine ⟨_, _, rfl, ?_, fr⟩
      rw [(hM1.2.2.2.2 i hi).2.2.2.2.2.2.2.2 k (by omega), (hC.2.2.2.2 i hi).2.2.2.2.2.2.2.2.2 k (by omega)]
theorem op_kin {S : Sp} {c m : Hp} (w : wfNow S) (hC : nowC S c) (hM : nowM S m) (x y : Int32) : ∃ r m', f11_kin x y c = some r ∧ f12_kin x y m = some (r, m') ∧ frM m m' := by
  have hn := w.1
  obtain ⟨m1, em, fr⟩ := m0_ex m
  have hM1 := hM.fr w fr
  simp only [f11_kin, f12_kin, em, lt, f12_kin_34, isBoxC, isBoxM, hC.1, Option.bind_some, hM1.1, f0_isKinOf_eq]
  rcases bi_cases x (S 0 0) (by omega) with h | ⟨i, hi, rfl, h⟩
  · simp only [h, if_true]; exact ⟨_, _, rfl, rfl, fr⟩
  · rcases bi_cases y (S 0 0) (by omega) with h2 | ⟨k, hk, rfl, h2⟩
    · simp only [h, h2, if_true, one_ne, if_false]; exact ⟨_, _, rfl, rfl, fr⟩
    · have w5 := (w.2.2.2.2 i hi).2.2.2.2.1
      simp only [h, h2, one_ne, if_false, gd, inb_t (show i < 6 by omega) (by omega), inb_t (show i < 12 by omega) (by omega), ix_nI (show i < 2 ^ 31 by omega), if_true, (hM1.2.2.2.2 i hi).2.1, (hC.2.2.2.2 i hi).2.2.1, bit_nI (show S 5 i < 2 ^ 31 by omega) (show k < 32 by omega)]
      have h2 : S 5 i / 2 ^ k % 2 = 0 ∨ S 5 i / 2 ^ k % 2 = 1 := by omega
      rcases h2 with e | e
      · rw [e]; exact ⟨_, _, rfl, rfl, fr⟩
      · rw [e]; exact ⟨_, _, rfl, rfl, fr⟩
theorem isLetGo_eq {S : Sp} {i p : Nat} {c : Hp} (h : boxC S i p c) (h2 : S 2 i < 2 ^ 31) (h6 : S 6 i < 2 ^ 31) : f0_isLetGo p c = some (if lgo S i = true then 1 else 0) := by
  obtain ⟨b1, b2, b3, b4, b5, b6, b7, b8, b9, b10⟩ := h
  simp only [f0_isLetGo, f0_isLetGo_18, b4, b9]
  simp (disch := omega) only [lit, nI_eq, nI_leI, lgo, decide_eq_true_eq]
  by_cases e : S 6 i = 0
  · by_cases e2 : S 2 i ≤ 0
    · rw [if_pos e, if_pos e2, if_neg (by omega)]
    · rw [if_pos e, if_neg e2, if_pos (by omega)]
  · rw [if_neg e, if_neg (by omega)]
/-- bits by a rule -/
def orB (p : Nat → Bool) : Nat → Int32
  | 0 => 0
  | n + 1 => if p n then orB p n ||| ((1 : Int32) <<< (nI n &&& 31)) else orB p n
theorem silentC {S : Sp} {c : Hp} (w : wfNow S) (hC : nowC S c) : f11_silent c = some (orB (fun i => !lgo S i) (S 0 0)) := by
  have hn := w.1
  unfold f11_silent f11_silent_4
  refine lp_for1 (f := fun z : Int32 × Int32 => f11_silent_4_s z.1 z.2 c) (fun i => (orB (fun i => !lgo S i) i, nI i)) (S 0 0) (fun i hi => ?_) ?_
  · obtain ⟨w1, w2, w3, w4, w5, w6, w7, w8, w9⟩ := w.2.2.2.2 i hi
    simp only [f11_silent_4_s, f11_silent_36, lt, hC.1, nI_ge hi (show S 0 0 < 2 ^ 31 by omega), if_false, gd, inb_t (show i < 6 by omega) (by omega), if_true, ix_nI (show i < 2 ^ 31 by omega), isLetGo_eq (hC.2.2.2.2 i hi) (by omega) (by omega), Option.bind_some, nI_1, orB]
    rcases Bool.eq_false_or_eq_true (lgo S i) with e | e <;> simp [e]
  · simp only [f11_silent_4_s, hC.1, nI_le (Nat.le_refl (S 0 0)) (show S 0 0 < 2 ^ 31 by omega), if_true]
theorem goesM {S : Sp} {m : Hp} {i : Nat} (w : wfNow S) (hM : nowM S m) (hi : i < S 0 0) (h60 : m.1 0 60 = 0) (h62 : m.1 0 62 = -1) : f12_goes 0 (nI i) m = some (if lgo S i = true then 1 else 0) := by
  have hn := w.1
  obtain ⟨b1, b2, b3, b4, b5, b6, b7, b8, b9⟩ := hM.2.2.2.2 i hi
  obtain ⟨w1, w2, w3, w4, w5, w6, w7, w8, w9⟩ := w.2.2.2.2 i hi
  have e2 : (6 * 0 + nI i : Int32) = nI i := by rw [lit, show (0 : Int32) = nI 0 from rfl, pk_mul, nI_add]; congr 1; omega
  have hne : ¬ nI i = (-1 : Int32) := by
    intro q
    have := congrArg Int32.toInt q
    rw [nI_toInt (by omega)] at this
    exact absurd this (by rw [show ((-1 : Int32)).toInt = -1 from by decide]; omega)
  simp only [f12_goes, f12_goes_29, f12_goes_47, h62, hne, if_false, gd, e2, inb_t (show i < 12 by omega) (by omega), if_true, ix_nI (show i < 2 ^ 31 by omega), b8, b3, h60]
  simp (disch := omega) only [lit, nI_eq, nI_leI, lgo, decide_eq_true_eq]
  by_cases e : S 6 i = 0
  · by_cases e2 : S 2 i ≤ 0
    · rw [if_pos e, if_pos e2, if_neg (by omega)]
    · rw [if_pos e, if_neg e2, if_pos (by omega)]
  · rw [if_neg e, if_neg (by omega)]
theorem op_silent {S : Sp} {c m : Hp} (w : wfNow S) (hC : nowC S c) (hM : nowM S m) : ∃ r m', f11_silent c = some r ∧ f12_silent m = some (r, m') ∧ frM m m' := by
  have hn := w.1
  obtain ⟨m1, e1, f1, p58, p59, p60, p61, p62, pf, pj⟩ := plain_ex (m0 m)
  have fr := (m0_fr m).tr f1
  have hM1 := hM.fr w fr
  refine ⟨_, m1, silentC w hC, ?_, fr⟩
  simp only [f12_silent, lt, show f12_plainTried (wI m 0 2 0) = some m1 from e1, Option.bind_some, f12_silent_13]
  refine lp_for1 (f := fun z : Int32 × Int32 => f12_silent_13_s z.1 z.2 m1) (fun i => (orB (fun i => !lgo S i) i, nI i)) (S 0 0) (fun i hi => ?_) ?_
  · simp only [f12_silent_13_s, f12_silent_38, lt, hM1.1, nI_ge hi (show S 0 0 < 2 ^ 31 by omega), if_false, goesM w hM1 hi p60 p62, Option.bind_some, nI_1, orB]
    rcases Bool.eq_false_or_eq_true (lgo S i) with e | e <;> simp [e]
  · simp only [f12_silent_13_s, hM1.1, nI_le (Nat.le_refl (S 0 0)) (show S 0 0 < 2 ^ 31 by omega), if_true]
