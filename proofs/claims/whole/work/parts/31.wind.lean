/-! wind, steal, tooth, undo. -/
def tU_C (q : Nat) : Prop := (8 ≤ q ∧ q ≤ 19) ∨ (34 ≤ q ∧ q ≤ 38)
def tU_M (q k : Nat) : Prop := (q = 0 ∧ (k = 2 ∨ k = 69)) ∨ q = 36 ∨ ((q = 24 ∨ q = 28 ∨ q = 29) ∧ k < 6)
def eqU (S S' : Sp) : Prop := ∀ a j, ¬ ((a = 0 ∧ j = 12) ∨ (20 ≤ a ∧ a ≤ 23) ∨ a = 2 ∨ a = 4 ∨ a = 6) → S' a j = S a j
def UOk (S S' : Sp) (c c' m m' : Hp) : Prop := wfNow S' ∧ wfUnd S' ∧ nowC S' c' ∧ nowM S' m' ∧ undC S' c' ∧ undM S' m' ∧ eqU S S' ∧ (∀ q k, ¬ tU_C q → c'.1 q k = c.1 q k) ∧ c'.2 = c.2 ∧ (∀ q k, ¬ tU_M q k → m'.1 q k = m.1 q k) ∧ m'.2 = m.2
theorem undM.o {S : Sp} {m m1 : Hp} (h : undM S m) (o : ∀ q k, ¬ (q = 0 ∧ k = 2) → m1.1 q k = m.1 q k) : undM S m1 :=
  ⟨(o _ _ (by omega)).trans h.1, fun j b hj hb => ⟨(o _ _ (by omega)).trans (h.2 j b hj hb).1, (o _ _ (by omega)).trans (h.2 j b hj hb).2.1, (o _ _ (by omega)).trans (h.2 j b hj hb).2.2⟩⟩
theorem nowM.o {S : Sp} {m m1 : Hp} (w : wfNow S) (h : nowM S m) (o : ∀ q k, ¬ (q = 0 ∧ k = 2) → m1.1 q k = m.1 q k) (o2 : m1.2 = m.2) : nowM S m1 :=
  h.cg (fun _ _ => rfl) (fun _ _ _ _ => rfl) w.1 (fun q k hq => o q k (by omega)) (by rw [o2])
theorem UOk.none {S : Sp} {c m m1 : Hp} (w : wfNow S) (u : wfUnd S) (hC : nowC S c) (hM : nowM S m) (uC : undC S c) (uM : undM S m) (o : ∀ q k, ¬ (q = 0 ∧ k = 2) → m1.1 q k = m.1 q k) (o2 : m1.2 = m.2) : UOk S S c c m m1 :=
  ⟨w, u, hC, hM.o w o o2, uC, uM.o o, fun _ _ _ => rfl, fun _ _ _ => rfl, rfl, fun q k h => o q k (by unfold tU_M at h; omega), o2⟩
/-- a change that is noted and done -/
theorem UOk.chg {S : Sp} {c m m0 : Hp} {b : Nat} (w : wfNow S) (u : wfUnd S) (hC : nowC S c) (hM : nowM S m) (uC : undC S c) (uM : undM S m) (o : ∀ q k, ¬ (q = 0 ∧ k = 2) → m0.1 q k = m.1 q k) (o2 : m0.2 = m.2) (hb : b < S 0 0) : ∃ c1 m1, f1_note (nI b) (8 + 2 * b) c = some c1 ∧ f12_remember m0 = some m1 ∧ (∀ q k, ¬ (34 ≤ q ∧ q ≤ 38) → c1.1 q k = c.1 q k) ∧ (∀ q k, ¬ (q = 36 ∨ q = 0 ∧ (k = 2 ∨ k = 69)) → m1.1 q k = m.1 q k) ∧ ∀ a v, okV a v → UOk S (up2 (pshU S b) a b v) c (wI c1 (8 + 2 * b) (kCf a) (nI v)) m (wI m1 (qMf a) b (nI v)) := by
  have hn := w.1
  obtain ⟨c1, m1, ec, em, co, c2, mo, m2, h⟩ := change_ex w u hC (hM.o w o o2) uC (uM.o o) hb
  refine ⟨c1, m1, ec, em, co, fun q k hq => (mo q k (by omega)).trans (o q k (by omega)), fun a v hv => ?_⟩
  obtain ⟨h1, h2, h3, h4, h5, h6⟩ := h a v hv
  have ha : a = 2 ∨ a = 4 ∨ a = 6 := by unfold okV at hv; omega
  have hq : qMf a = 24 ∨ qMf a = 29 ∨ qMf a = 28 := by rcases ha with rfl | rfl | rfl <;> simp [qMf]
  refine ⟨h4, h1, h5, h6, h2, h3, fun x j hx => ?_, fun q k hq' => ?_, c2, fun q k hq' => ?_, m2.trans o2⟩
  · rw [up2_of (by omega), psh_o (by omega) (by omega)]
  · unfold tU_C at hq'
    rw [wI_o (by omega)]; exact co q k (by omega)
  · unfold tU_M at hq'
    rw [wI_o (by omega), mo q k (by omega)]; exact o q k (by omega)
theorem op_wind {S : Sp} {c m : Hp} (w : wfNow S) (u : wfUnd S) (hC : nowC S c) (hM : nowM S m) (uC : undC S c) (uM : undM S m) (x y : Int32) : ∃ S' r c' m', f11_wind x y c = some (r, c') ∧ f12_wind x y m = some (r, m') ∧ UOk S S' c c' m m' := by
  have hn := w.1
  obtain ⟨m0, em, o, o2⟩ := m0_ex2 m
  have hM0 := hM.o w o o2
  have none := UOk.none w u hC hM uC uM o o2
  simp only [f11_wind, f12_wind, em, lt, isBoxC, isBoxM, isWithin_eq, isIn_eq, hC.1, hM0.1, Option.bind_some]
  rcases bi_cases x (S 0 0) (by omega) with h | ⟨b, hb, rfl, h⟩
  · simp only [h, if_true]; exact ⟨S, _, _, _, rfl, rfl, none⟩
  · rcases wi_cases y 1 99 (by omega) (by omega) with h2 | ⟨t, ht1, ht2, rfl, h2⟩
    · simp only [h, show wi y 1 99 = 0 from h2, if_true, one_ne, if_false]; exact ⟨S, _, _, _, rfl, rfl, none⟩
    · have bC := hC.2.2.2.2 b hb
      have bM := hM0.2.2.2.2 b hb
      have wb := w.2.2.2.2 b hb
      simp only [h, show wi (nI t) 1 99 = 1 from h2, one_ne, if_false, gd, inb_t (show b < 6 by omega) (by omega), inb_t (show b < 12 by omega) (by omega), if_true, ix_nI (show b < 2 ^ 31 by omega), bC.2.2.2.2.2.2.2.2.1, bC.2.2.2.1, bM.2.2.2.2.2.2.2.1, bM.2.2.1]
      by_cases q : nI (S 6 b) = 0
      · by_cases q2 : S 2 b = 99
        · have z1 : ¬ nI (S 2 b) < (99 : Int32) := by rw [lit]; exact nI_nlt (by omega) (by omega)
          have z2 : nI (S 2 b) = (99 : Int32) := by rw [q2]; rfl
          simp only [q, if_true, z1, if_false, z2]
          have z1 : ¬ (99 : Int32) < 99 := by decide
          simp only [z1, if_false]
          exact ⟨S, _, _, _, rfl, rfl, none⟩
        · have z1 : nI (S 2 b) < (99 : Int32) := by rw [lit]; exact nI_lt (by omega) (by omega)
          have z2 : ¬ nI (S 2 b) = (99 : Int32) := by rw [lit, nI_eq (by omega) (by omega)]; exact q2
          obtain ⟨c1, m1, ec, er, co, mo, hu⟩ := UOk.chg w u hC hM uC uM o o2 hb
          have v1 : c1.1 (8 + 2 * b) 5 = nI (S 2 b) := (co _ _ (by omega)).trans bC.2.2.2.1
          have v2 : m1.1 24 b = nI (S 2 b) := (mo _ _ (by omega)).trans ((o 24 b (by omega)).symm.trans bM.2.2.1)
          simp only [q, z1, if_true, z2, if_false, ec, er, Option.bind_some, v1, v2, nI_add, f12_wind_83, lt, gd, inb_t (show b < 12 by omega) (by omega), ix_nI (show b < 2 ^ 31 by omega)]
          by_cases q3 : S 2 b + t < 99
          · have y1 : nI (S 2 b + t) < (99 : Int32) := by rw [lit]; exact nI_lt q3 (by omega)
            have y2 : nI (S 2 b + t) ≤ (99 : Int32) := by rw [lit]; exact nI_le (by omega) (by omega)
            simp only [y1, y2, if_true, wI_s]
            exact ⟨_, _, _, _, rfl, rfl, hu 2 (S 2 b + t) (Or.inl ⟨rfl, by omega⟩)⟩
          · have y1 : ¬ nI (S 2 b + t) < (99 : Int32) := by rw [lit]; exact nI_nlt (by omega) (by omega)
            have fin := hu 2 99 (Or.inl ⟨rfl, by omega⟩)
            by_cases q4 : S 2 b + t = 99
            · have y2 : nI (S 2 b + t) ≤ (99 : Int32) := by rw [lit]; exact nI_le (by omega) (by omega)
              simp only [y1, y2, if_true, if_false, wI_s, q4]
              have y3 : ¬ (nI 99 : Int32) < 99 := by decide
              have y4 : (nI 99 : Int32) ≤ 99 := by decide
              simp only [y3, y4, if_true, if_false, wI_s]
              exact ⟨_, _, _, _, rfl, rfl, fin⟩
            · have y2 : ¬ nI (S 2 b + t) ≤ (99 : Int32) := by rw [lit]; exact nI_ge (by omega) (by omega)
              simp only [y1, y2, if_false, wI_s]
              exact ⟨_, _, _, _, rfl, rfl, fin⟩
      · simp only [q, if_false]; exact ⟨S, _, _, _, rfl, rfl, none⟩
theorem op_steal {S : Sp} {c m : Hp} (w : wfNow S) (u : wfUnd S) (hC : nowC S c) (hM : nowM S m) (uC : undC S c) (uM : undM S m) (x : Int32) {is : Nat} (his : is ≤ 1) : ∃ S' r c' m', f11_steal x (nI is) c = some (r, c') ∧ f12_steal x (nI is) m = some (r, m') ∧ UOk S S' c c' m m' := by
  have hn := w.1
  obtain ⟨m0, em, o, o2⟩ := m0_ex2 m
  have hM0 := hM.o w o o2
  have none := UOk.none w u hC hM uC uM o o2
  simp only [f11_steal, f12_steal, em, lt, isBoxC, isBoxM, hC.1, hM0.1, Option.bind_some]
  rcases bi_cases x (S 0 0) (by omega) with h | ⟨b, hb, rfl, h⟩
  · simp only [h, if_true]; exact ⟨S, _, _, _, rfl, rfl, none⟩
  · have bC := hC.2.2.2.2 b hb
    have bM := hM0.2.2.2.2 b hb
    simp only [h, one_ne, if_false, gd, inb_t (show b < 6 by omega) (by omega), inb_t (show b < 12 by omega) (by omega), if_true, ix_nI (show b < 2 ^ 31 by omega), bC.2.2.2.2.2.2.2.2.1, bM.2.2.2.2.2.2.2.1]
    by_cases q : nI (S 6 b) = nI is
    · simp only [q, if_true]; exact ⟨S, _, _, _, rfl, rfl, none⟩
    · obtain ⟨c1, m1, ec, er, co, mo, hu⟩ := UOk.chg w u hC hM uC uM o o2 hb
      simp only [q, if_false, ec, er, Option.bind_some, bz_nI his, if_true]
      exact ⟨_, _, _, _, rfl, rfl, hu 6 is (Or.inr (Or.inr ⟨rfl, his⟩))⟩
theorem tog : ∀ t, 1 ≤ t → t ≤ 9 → ∀ x, x < 1024 → x % 2 = 0 → ∃ y, y < 1024 ∧ y % 2 = 0 ∧ nI x ^^^ ((1 : Int32) <<< (nI t &&& 31)) = nI y := by
  intro t h1 h2 x hx he
  have hall : ∀ t, t < 10 → ∀ x, x < 1024 → (1 ≤ t ∧ x % 2 = 0 → (Nat.xor x (2 ^ t) < 1024 ∧ Nat.xor x (2 ^ t) % 2 = 0)) := by decide +kernel
  have hsh : ∀ t, t < 10 → (1 : Int32) <<< (nI t &&& 31) = nI (2 ^ t) := by decide +kernel
  obtain ⟨a, b⟩ := hall t (by omega) x hx ⟨h1, he⟩
  refine ⟨Nat.xor x (2 ^ t), a, b, ?_⟩
  rw [hsh t (by omega)]
  unfold nI
  apply Int32.toBitVec_inj.mp
  apply BitVec.eq_of_toNat_eq
  show (BitVec.ofNat 32 x ^^^ BitVec.ofNat 32 (2 ^ t)).toNat = (BitVec.ofNat 32 (Nat.xor x (2 ^ t))).toNat
  rw [BitVec.toNat_xor, BitVec.toNat_ofNat, BitVec.toNat_ofNat, BitVec.toNat_ofNat]
  have h3 : 2 ^ t < 2 ^ 32 := Nat.pow_lt_pow_right (by omega) (by omega)
  rw [Nat.mod_eq_of_lt (show x < 2 ^ 32 by omega), Nat.mod_eq_of_lt h3, Nat.mod_eq_of_lt (show Nat.xor x (2 ^ t) < 2 ^ 32 by omega)]
  rfl
theorem op_tooth {S : Sp} {c m : Hp} (w : wfNow S) (u : wfUnd S) (hC : nowC S c) (hM : nowM S m) (uC : undC S c) (uM : undM S m) (x y : Int32) {is : Nat} (his : is ≤ 1) : ∃ S' r c' m', f11_tooth x y (nI is) c = some (r, c') ∧ f12_tooth x y (nI is) m = some (r, m') ∧ UOk S S' c c' m m' := by
  have hn := w.1
  obtain ⟨m0, em, o, o2⟩ := m0_ex2 m
  have hM0 := hM.o w o o2
  have none := UOk.none w u hC hM uC uM o o2
  simp only [f11_tooth, f12_tooth, em, lt, isBoxC, isBoxM, isWithin_eq, isTooth_eq, hC.1, hM0.1, Option.bind_some]
  rcases bi_cases x (S 0 0) (by omega) with h | ⟨b, hb, rfl, h⟩
  · simp only [h, if_true]; exact ⟨S, _, _, _, rfl, rfl, none⟩
  · rcases wi_cases y 1 9 (by omega) (by omega) with h2 | ⟨t, ht1, ht2, rfl, h2⟩
    · simp only [h, show wi y 1 9 = 0 from h2, if_true, one_ne, if_false]; exact ⟨S, _, _, _, rfl, rfl, none⟩
    · have bC := hC.2.2.2.2 b hb
      have bM := hM0.2.2.2.2 b hb
      have wb := w.2.2.2.2 b hb
      simp only [h, show wi (nI t) 1 9 = 1 from h2, one_ne, if_false, gd, inb_t (show b < 6 by omega) (by omega), inb_t (show b < 12 by omega) (by omega), if_true, ix_nI (show b < 2 ^ 31 by omega), f0_misses_eq, isOf_eq, bC.2.2.2.2.2.2.2.1, bM.2.2.2.2.2.2.1, Option.bind_some]
      by_cases q : (if (nI (S 4 b) >>> (nI t &&& 31)) &&& 1 = 1 then (1 : Int32) else 0) = nI is
      · simp only [q, if_true]; exact ⟨S, _, _, _, rfl, rfl, none⟩
      · obtain ⟨c1, m1, ec, er, co, mo, hu⟩ := UOk.chg w u hC hM uC uM o o2 hb
        have v1 : c1.1 (8 + 2 * b) 9 = nI (S 4 b) := (co _ _ (by omega)).trans bC.2.2.2.2.2.2.2.1
        have v2 : m1.1 29 b = nI (S 4 b) := (mo _ _ (by omega)).trans ((o 29 b (by omega)).symm.trans bM.2.2.2.2.2.2.1)
        obtain ⟨z, z1, z2, ez⟩ := tog t ht1 ht2 (S 4 b) wb.2.2.2.1.1 wb.2.2.2.1.2
        simp only [q, if_false, ec, er, Option.bind_some, v1, v2, ez]
        exact ⟨_, _, _, _, rfl, rfl, hu 4 z (Or.inr (Or.inl ⟨rfl, z1, z2⟩))⟩
