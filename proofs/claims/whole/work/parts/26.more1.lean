/-! known, fault, stay, feed. -/
theorem op_known {S : Sp} {c m : Hp} (w : wfFnd S) (hC : fndC S c) (hM : fndM S m) (x : Int32) : ∃ S' r c' m', f11_known x c = some (r, c') ∧ f12_known x m = some (r, m') ∧ wfFnd S' ∧ fndC S' c' ∧ fndM S' m' ∧ eqF S S' ∧ (∀ q k, ¬ tF_C q → c'.1 q k = c.1 q k) ∧ c'.2 = c.2 ∧ (∀ q k, ¬ tF_M q k → m'.1 q k = m.1 q k) ∧ m'.2 = m.2 := by
  have h24 := w.1
  obtain ⟨m1, em, o1, p1⟩ := m0_ex2 m
  have hM1 := hM.o o1
  simp only [f11_known, f12_known, em, lt, isWithin_eq, isIn_eq, Option.bind_some, hM1.1, hC.1]
  by_cases q0 : wi x (-1) (nI (S 0 14)) = 0
  · simp only [q0, if_true]
    exact ⟨S, 0, c, m1, rfl, rfl, w, hC, hM1, eqF_rf, fun _ _ _ => rfl, rfl, fun q k h => o1 q k (by unfold tF_M at h; omega), p1⟩
  · have hx : ∃ n, n ≤ S 0 14 + 1 ∧ x = kI n := by
      unfold wi at q0
      by_cases h1 : x < -1
      · rw [if_pos h1] at q0; exact absurd rfl q0
      · rw [if_neg h1] at q0
        by_cases h2 : nI (S 0 14) < x
        · rw [if_pos h2] at q0; exact absurd rfl q0
        · by_cases h3 : x < 0
          · refine ⟨0, by omega, ?_⟩
            rw [Int32.lt_iff_toInt_lt, show ((-1 : Int32)).toInt = -1 from by decide] at h1
            rw [Int32.lt_iff_toInt_lt, show ((0 : Int32)).toInt = 0 from by decide] at h3
            apply Int32.toInt_inj.mp
            rw [show (kI 0).toInt = -1 from by decide]
            omega
          · obtain ⟨j, hj, rfl⟩ := nI_of h3
            have : j ≤ S 0 14 := by
              rcases Nat.lt_or_ge (S 0 14) j with z | z
              · exact absurd (nI_lt z hj) h2
              · exact z
            exact ⟨j + 1, by omega, by unfold kI; rw [if_neg (by omega)]; rfl⟩
    obtain ⟨n, hn, rfl⟩ := hx
    simp only [q0, if_false]
    have eS : eqF S (up2 S 0 15 n) := fun a b h => up2_of (by omega)
    have e14 : up2 S 0 15 n 0 14 = S 0 14 := up2_of (by omega)
    have e15 : up2 S 0 15 n 0 15 = n := up2_s
    have ea : ∀ a j, 15 ≤ a → up2 S 0 15 n a j = S a j := fun a j h => up2_of (by omega)
    refine ⟨up2 S 0 15 n, 1, _, _, rfl, rfl, ⟨by rw [e14]; exact w.1, ?_, fun j hj => ?_⟩, ⟨?_, ?_, fun j hj => ?_⟩, ⟨?_, ?_, fun j hj => ?_⟩, eS, fun q k h => ?_, rfl, fun q k h => ?_, p1⟩
    · unfold kb
      rw [e14, e15]
      split <;> omega
    · rw [e14] at hj
      rw [ea 15 j (by omega), ea 16 j (by omega), ea 17 j (by omega), ea 18 j (by omega)]
      exact w.2.2 j hj
    · rw [wI_o (by omega), e14]; exact hC.1
    · rw [wI_s, e15]
    · rw [e14] at hj
      rw [ea 15 j (by omega), ea 16 j (by omega), ea 17 j (by omega), ea 18 j (by omega), wI_o (by omega), wI_o (by omega), wI_o (by omega), wI_o (by omega)]
      exact hC.2.2 j hj
    · rw [wI_o (by omega), e14]; exact hM1.1
    · rw [wI_s, e15]
    · rw [e14] at hj
      rw [ea 15 j (by omega), ea 16 j (by omega), ea 17 j (by omega), ea 18 j (by omega), wI_o (by omega), wI_o (by omega), wI_o (by omega)]
      exact hM1.2.2 j hj
    · unfold tF_C at h
      rw [wI_o (by omega)]
    · unfold tF_M at h
      rw [wI_o (by omega)]
      exact o1 q k (by omega)
/-- 0 10 the fault, 0 11 its place (0 none, else one more) -/
def fltC (S : Sp) (c : Hp) : Prop := c.1 3 3 = nI (S 0 10) ∧ c.1 3 4 = kI (S 0 11)
def fltM (S : Sp) (m : Hp) : Prop := m.1 0 4 = nI (S 0 10) ∧ m.1 0 5 = kI (S 0 11)
theorem op_fault {S : Sp} {c m : Hp} (hC : fltC S c) (hM : fltM S m) (x : Int32) : ∃ r m', f11_fault x c = some r ∧ f12_fault x m = some (r, m') ∧ frM m m' := by
  obtain ⟨m1, em, fr⟩ := m0_ex m
  have h4 : m1.1 0 4 = nI (S 0 10) := (fr.1 _ _ (by unfold scrM; omega)).trans hM.1
  have h5 : m1.1 0 5 = kI (S 0 11) := (fr.1 _ _ (by unfold scrM; omega)).trans hM.2
  simp only [f11_fault, f12_fault, em, lt, hC.1, hC.2, h4, h5]
  by_cases q : x = 0
  · simp only [q, if_true]; exact ⟨_, _, rfl, rfl, fr⟩
  · by_cases q2 : x = 1
    · simp only [q2, one_ne, if_false, if_true]; exact ⟨_, _, rfl, rfl, fr⟩
    · simp only [q, q2, if_false]; exact ⟨_, _, rfl, rfl, fr⟩
/-- the slowness of the boxes in bits -/
def smB (S : Sp) (x : Int32) : Nat → Nat
  | 0 => 0
  | n + 1 => if (x >>> (nI n &&& 31)) &&& 1 = 1 then smB S x n + S 1 n else smB S x n
theorem smB_le {S : Sp} (w : wfNow S) (x : Int32) : ∀ n, n ≤ S 0 0 → smB S x n ≤ 9 * n
  | 0, _ => Nat.le_refl 0
  | n + 1, h => by
    have ih := smB_le w x n (by omega)
    have := (w.2.2.2.2 n (by omega)).1
    unfold smB
    split <;> omega
theorem stayM {S : Sp} {m : Hp} (w2 : wfTold S) (hU : toldM S m) {v : Nat} (hv : v < 1000) : f12_stay_68 (nI v) 0 0 m = some (orB (gw S (nI v) 0) (S 0 1), m) := by
  have hg := w2.1
  unfold f12_stay_68
  refine lp_for1 (f := fun z : Int32 × Int32 => f12_stay_68_s (nI v) z.1 z.2 m) (fun g => (orB (gw S (nI v) 0) g, nI g)) (S 0 1) (fun g hgi => ?_) ?_
  · have w3 := w2.2.2.2.2 g hgi
    simp only [f12_stay_68_s, f12_stay_97, lt, hU.1, nI_ge hgi (show S 0 1 < 2 ^ 31 by omega), if_false, gd, inb_t (show g < 10 by omega) (by omega), if_true, ix_nI (show g < 2 ^ 31 by omega), (hU.2.2.2.2.2 g hgi).2.1, nI_1, orB, gw]
    have q2 : ¬ nI (S 13 g) < 0 := nI_pos (by omega)
    by_cases q1 : nI (S 12 g) < nI v
    · simp [q1]
    · simp [q1, q2]
  · simp only [f12_stay_68_s, hU.1, nI_le (Nat.le_refl (S 0 1)) (show S 0 1 < 2 ^ 31 by omega), if_true]
theorem op_stay {S : Sp} {t : Nat} {c m : Hp} (w : wfNow S) (w2 : wfTold S) (hC : nowC S c) (hM : nowM S m) (hT : toldC S t c) (hU : toldM S m) (x : Int32) : ∃ r m', f11_stay x c = some r ∧ f12_stay x m = some (r, m') ∧ frM m m' := by
  have hn := w.1
  obtain ⟨m1, em, fr⟩ := m0_ex m
  have hM1 := hM.fr w fr
  have hU1 := hU.fr fr
  have hsm := smB_le w x (S 0 0) (Nat.le_refl _)
  have kC : f11_stay_14 x 0 0 c = some (orB (gw S (nI (8 * smB S x (S 0 0))) 0) (S 0 1)) := by
    unfold f11_stay_14
    refine lp_for1 (f := fun z : Int32 × Int32 => f11_stay_14_s x z.1 z.2 c) (fun i => (nI (smB S x i), nI i)) (S 0 0) (fun i hi => ?_) ?_
    · simp only [f11_stay_14_s, f11_stay_49, lt, hC.1, nI_ge hi (show S 0 0 < 2 ^ 31 by omega), if_false, gd, inb_t (show i < 6 by omega) (by omega), if_true, ix_nI (show i < 2 ^ 31 by omega), (hC.2.2.2.2 i hi).1, nI_1, nI_add, smB]
      by_cases q : (x >>> (nI i &&& 31)) &&& 1 = 1
      · simp only [q, if_true]
      · simp only [q, if_false]
    · simp only [f11_stay_14_s, f11_stay_55, hC.1, nI_le (Nat.le_refl (S 0 0)) (show S 0 0 < 2 ^ 31 by omega), if_true, show (8 * nI (smB S x (S 0 0)) : Int32) = nI (8 * smB S x (S 0 0)) from by rw [lit, pk_mul], guestsWho_eq w2 hT, Option.bind_some, Option.map_some]
  have kM : f12_stay_25 x 0 0 m1 = some (orB (gw S (nI (8 * smB S x (S 0 0))) 0) (S 0 1), m1) := by
    unfold f12_stay_25
    refine lp_for1 (f := fun z : Int32 × Int32 => f12_stay_25_s x z.1 z.2 m1) (fun i => (nI (8 * smB S x i), nI i)) (S 0 0) (fun i hi => ?_) ?_
    · simp only [f12_stay_25_s, f12_stay_55, lt, hM1.1, nI_ge hi (show S 0 0 < 2 ^ 31 by omega), if_false, isOf_eq, Option.bind_some, gd, inb_t (show i < 12 by omega) (by omega), if_true, ix_nI (show i < 2 ^ 31 by omega), (hM1.2.2.2.2 i hi).1, nI_1, smB]
      by_cases q : (x >>> (nI i &&& 31)) &&& 1 = 1
      · simp only [q, if_true, one_ne, if_false, show (8 * nI (S 1 i) : Int32) = nI (8 * S 1 i) from by rw [lit, pk_mul], nI_add, Nat.mul_add]
      · simp only [q, if_false, if_true]
        rw [show (nI (8 * smB S x i) + 0 : Int32) = nI (8 * smB S x i) from by rw [lit, nI_add]; rfl]
    · simp only [f12_stay_25_s, f12_stay_63, hM1.1, nI_le (Nat.le_refl (S 0 0)) (show S 0 0 < 2 ^ 31 by omega), if_true, stayM w2 hU1 (show 8 * smB S x (S 0 0) < 1000 by omega), Option.map_some]
  simp only [f11_stay, f12_stay, em, lt, f11_areBoxes, f11_areBoxes_21, hC.1, hM1.1, kC, kM]
  by_cases q : x < 0
  · simp only [q, if_true, Option.bind_some]; exact ⟨_, _, rfl, rfl, fr⟩
  · by_cases q2 : (1 : Int32) <<< (nI (S 0 0) &&& 31) ≤ x
    · have : ¬ x < (1 : Int32) <<< (nI (S 0 0) &&& 31) := Int32.not_lt.mpr q2
      simp only [q, q2, this, if_false, if_true, Option.bind_some]; exact ⟨_, _, rfl, rfl, fr⟩
    · have : x < (1 : Int32) <<< (nI (S 0 0) &&& 31) := Int32.not_le.mp q2
      simp only [q, q2, this, if_false, if_true, Option.bind_some, one_ne]; exact ⟨_, _, rfl, rfl, fr⟩
