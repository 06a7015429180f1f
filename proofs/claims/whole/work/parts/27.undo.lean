/-! What can be undone: both sides' rows. -/
/-- 0 12 how many; of each: 20 the box, 21 its spring, 22 its missing teeth, 23 whether it was stolen, ahead of the change -/
def cp (a : Nat) : Nat := if a = 2 then 21 else if a = 4 then 22 else 23
/-- what component a of box b was ahead of change j, of n changes from j on -/
def uv (S : Sp) (a b : Nat) : Nat → Nat → Nat
  | 0, _ => S a b
  | n + 1, j => if S 20 j = b then S (cp a) j else uv S a b n (j + 1)
def wfUnd (S : Sp) : Prop := S 0 12 ≤ 20 ∧ ∀ j, j < S 0 12 → S 20 j < S 0 0 ∧ S 21 j ≤ 99 ∧ (S 22 j < 1024 ∧ S 22 j % 2 = 0) ∧ S 23 j ≤ 1
def undC (S : Sp) (c : Hp) : Prop := c.1 34 4 = nI (S 0 12) ∧ ∀ j, j < S 0 12 → c.1 35 j = nI (S 20 j) ∧ c.1 36 j = nI (S 21 j) ∧ c.1 37 j = nI (S 22 j) ∧ c.1 38 j = nI (S 23 j)
def undM (S : Sp) (m : Hp) : Prop := m.1 0 69 = nI (S 0 12) ∧ ∀ j b, j < S 0 12 → b < S 0 0 → m.1 36 (18 * j + b) = nI (uv S 2 b (S 0 12 - j) j) ∧ m.1 36 (18 * j + 6 + b) = nI (uv S 6 b (S 0 12 - j) j) ∧ m.1 36 (18 * j + 12 + b) = nI (uv S 4 b (S 0 12 - j) j)
/-- the reference lays its boxes' state into a row from i on -/
theorem put_ex {h : Hp} {p ln i : Nat} (hl : lnM p = ln) (hi : i + 18 ≤ ln) (hln : ln < 1000) (hp : p ≠ 24 ∧ p ≠ 28 ∧ p ≠ 29) : ∃ h', f12_put p (nI i) h = some h' ∧ (∀ q k, ¬ (q = p ∧ i ≤ k ∧ k < i + 18) → h'.1 q k = h.1 q k) ∧ h'.2 = h.2 ∧ ∀ b, b < 6 → h'.1 p (i + b) = h.1 24 b ∧ h'.1 p (i + 6 + b) = (if h.1 28 b = 0 then 0 else 1) ∧ h'.1 p (i + 12 + b) = h.1 29 b := by
  unfold f12_put f12_put_2
  refine tt_lp (f := fun z : Int32 × Hp => f12_put_2_s p (nI i) z.1 z.2) (Q := fun h' => (∀ q k, ¬ (q = p ∧ i ≤ k ∧ k < i + 18) → h'.1 q k = h.1 q k) ∧ h'.2 = h.2 ∧ ∀ b, b < 6 → h'.1 p (i + b) = h.1 24 b ∧ h'.1 p (i + 6 + b) = (if h.1 28 b = 0 then 0 else 1) ∧ h'.1 p (i + 12 + b) = h.1 29 b) (I := fun n s => ∃ j, j ≤ 6 ∧ n = 6 - j ∧ s.1 = nI j ∧ (∀ q k, ¬ (q = p ∧ i ≤ k ∧ k < i + 18) → s.2.1 q k = h.1 q k) ∧ s.2.2 = h.2 ∧ ∀ b, b < j → s.2.1 p (i + b) = h.1 24 b ∧ s.2.1 p (i + 6 + b) = (if h.1 28 b = 0 then 0 else 1) ∧ s.2.1 p (i + 12 + b) = h.1 29 b) (fun n s hI => ?_) 6 (0, h) ⟨0, by omega, rfl, rfl, fun _ _ _ => rfl, rfl, fun b hb => by omega⟩
  obtain ⟨j, hj, hn, e1, o, e2, hb⟩ := hI
  obtain ⟨x, k⟩ := s
  have e1 : x = nI j := e1
  have o : ∀ q k', ¬ (q = p ∧ i ≤ k' ∧ k' < i + 18) → k.1 q k' = h.1 q k' := o
  have e2 : k.2 = h.2 := e2
  have hb : ∀ b, b < j → k.1 p (i + b) = h.1 24 b ∧ k.1 p (i + 6 + b) = (if h.1 28 b = 0 then 0 else 1) ∧ k.1 p (i + 12 + b) = h.1 29 b := hb
  subst e1
  by_cases he : j = 6
  · subst he
    have e : f12_put_2_s p (nI i) (nI 6) k = some (.inr k) := by
      simp only [f12_put_2_s, lit, nI_le (Nat.le_refl 6) (show 6 < 2 ^ 31 by omega), if_true]
    exact tt_eq e ⟨o, e2, hb⟩
  · have hj6 : j < 6 := by omega
    have g6 : ¬ (6 : Int32) ≤ nI j := by rw [lit]; exact nI_ge hj6 (by omega)
    have a0 : (nI i + nI j : Int32) = nI (i + j) := nI_add i j
    have a6 : (nI i + 6 + nI j : Int32) = nI (i + 6 + j) := by rw [lit, nI_add, nI_add]
    have a12 : (nI i + 12 + nI j : Int32) = nI (i + 12 + j) := by rw [lit, nI_add, nI_add]
    have v28 : (wI k p (i + j) (k.1 24 j)).1 28 j = h.1 28 j := by rw [wI_o (by omega)]; exact o 28 j (by omega)
    have v24 : k.1 24 j = h.1 24 j := o 24 j (by omega)
    have st : ∀ s0 : Int32, f12_put_40 p (nI i) (nI j) s0 (nI (i + 6 + j)) p (wI k p (i + j) (k.1 24 j)) = some (.inl (nI (j + 1), wI (wI (wI k p (i + j) (k.1 24 j)) p (i + 6 + j) s0) p (i + 12 + j) (h.1 29 j))) := by
      intro s0
      have v29 : (wI (wI k p (i + j) (k.1 24 j)) p (i + 6 + j) s0).1 29 j = h.1 29 j := by rw [wI_o (by omega), wI_o (by omega)]; exact o 29 j (by omega)
      simp only [f12_put_40, lt, gd, hl, inb_t (show i + 6 + j < ln by omega) (show ln < 2 ^ 31 by omega), ix_nI (show i + 6 + j < 2 ^ 31 by omega), if_true, inb_t (show j < 12 by omega) (by omega), ix_nI (show j < 2 ^ 31 by omega), a12, inb_t (show i + 12 + j < ln by omega) (show ln < 2 ^ 31 by omega), ix_nI (show i + 12 + j < 2 ^ 31 by omega), v29, nI_1]
    have e : f12_put_2_s p (nI i) (nI j) k = some (.inl (nI (j + 1), wI (wI (wI k p (i + j) (k.1 24 j)) p (i + 6 + j) (if h.1 28 j = 0 then 0 else 1)) p (i + 12 + j) (h.1 29 j))) := by
      simp only [f12_put_2_s, g6, if_false, gd, inb_t (show j < 12 by omega) (by omega), if_true, a0, hl, inb_t (show i + j < ln by omega) (show ln < 2 ^ 31 by omega), ix_nI (show i + j < 2 ^ 31 by omega), ix_nI (show j < 2 ^ 31 by omega), lt, v28, a6, st]
      split <;> rfl
    refine tt_eq e ⟨6 - (j + 1), by omega, j + 1, by omega, rfl, rfl, fun q k' hq => ?_, e2, fun b hbj => ?_⟩
    · show (wI (wI (wI k p (i + j) (k.1 24 j)) p (i + 6 + j) (if h.1 28 j = 0 then 0 else 1)) p (i + 12 + j) (h.1 29 j)).1 q k' = _
      rw [wI_o (by omega), wI_o (by omega), wI_o (by omega)]
      exact o q k' hq
    · show (wI (wI (wI k p (i + j) (k.1 24 j)) p (i + 6 + j) (if h.1 28 j = 0 then 0 else 1)) p (i + 12 + j) (h.1 29 j)).1 p (i + b) = _ ∧ (wI (wI (wI k p (i + j) (k.1 24 j)) p (i + 6 + j) (if h.1 28 j = 0 then 0 else 1)) p (i + 12 + j) (h.1 29 j)).1 p (i + 6 + b) = _ ∧ (wI (wI (wI k p (i + j) (k.1 24 j)) p (i + 6 + j) (if h.1 28 j = 0 then 0 else 1)) p (i + 12 + j) (h.1 29 j)).1 p (i + 12 + b) = _
      by_cases q : b = j
      · subst q
        refine ⟨?_, ?_, ?_⟩
        · rw [wI_o (by omega), wI_o (by omega), wI_s]; exact v24
        · rw [wI_o (by omega), wI_s]
        · rw [wI_s]
      · obtain ⟨b1, b2, b3⟩ := hb b (by omega)
        refine ⟨?_, ?_, ?_⟩
        · rw [wI_o (by omega), wI_o (by omega), wI_o (by omega)]; exact b1
        · rw [wI_o (by omega), wI_o (by omega), wI_o (by omega)]; exact b2
        · rw [wI_o (by omega), wI_o (by omega), wI_o (by omega)]; exact b3
/-- .. and takes it back -/
theorem take_ex {h : Hp} {p ln i : Nat} (hl : lnM p = ln) (hi : i + 18 ≤ ln) (hln : ln < 1000) (hp : p ≠ 24 ∧ p ≠ 28 ∧ p ≠ 29) : ∃ h', f12_take p (nI i) h = some h' ∧ (∀ q k, ¬ ((q = 24 ∨ q = 28 ∨ q = 29) ∧ k < 6) → h'.1 q k = h.1 q k) ∧ h'.2 = h.2 ∧ ∀ b, b < 6 → h'.1 24 b = h.1 p (i + b) ∧ h'.1 28 b = (if h.1 p (i + 6 + b) = 1 then 1 else 0) ∧ h'.1 29 b = h.1 p (i + 12 + b) := by
  unfold f12_take f12_take_2
  refine tt_lp (f := fun z : Int32 × Hp => f12_take_2_s p (nI i) z.1 z.2) (Q := fun h' => (∀ q k, ¬ ((q = 24 ∨ q = 28 ∨ q = 29) ∧ k < 6) → h'.1 q k = h.1 q k) ∧ h'.2 = h.2 ∧ ∀ b, b < 6 → h'.1 24 b = h.1 p (i + b) ∧ h'.1 28 b = (if h.1 p (i + 6 + b) = 1 then 1 else 0) ∧ h'.1 29 b = h.1 p (i + 12 + b)) (I := fun n s => ∃ j, j ≤ 6 ∧ n = 6 - j ∧ s.1 = nI j ∧ (∀ q k, ¬ ((q = 24 ∨ q = 28 ∨ q = 29) ∧ k < 6) → s.2.1 q k = h.1 q k) ∧ s.2.2 = h.2 ∧ ∀ b, b < j → s.2.1 24 b = h.1 p (i + b) ∧ s.2.1 28 b = (if h.1 p (i + 6 + b) = 1 then 1 else 0) ∧ s.2.1 29 b = h.1 p (i + 12 + b)) (fun n s hI => ?_) 6 (0, h) ⟨0, by omega, rfl, rfl, fun _ _ _ => rfl, rfl, fun b hb => by omega⟩
  obtain ⟨j, hj, hn, e1, o, e2, hb⟩ := hI
  obtain ⟨x, k⟩ := s
  have e1 : x = nI j := e1
  have o : ∀ q k', ¬ ((q = 24 ∨ q = 28 ∨ q = 29) ∧ k' < 6) → k.1 q k' = h.1 q k' := o
  have e2 : k.2 = h.2 := e2
  have hb : ∀ b, b < j → k.1 24 b = h.1 p (i + b) ∧ k.1 28 b = (if h.1 p (i + 6 + b) = 1 then 1 else 0) ∧ k.1 29 b = h.1 p (i + 12 + b) := hb
  subst e1
  by_cases he : j = 6
  · subst he
    have e : f12_take_2_s p (nI i) (nI 6) k = some (.inr k) := by
      simp only [f12_take_2_s, lit, nI_le (Nat.le_refl 6) (show 6 < 2 ^ 31 by omega), if_true]
    exact tt_eq e ⟨o, e2, hb⟩
  · have hj6 : j < 6 := by omega
    have g6 : ¬ (6 : Int32) ≤ nI j := by rw [lit]; exact nI_ge hj6 (by omega)
    have a0 : (nI i + nI j : Int32) = nI (i + j) := nI_add i j
    have a6 : (nI i + 6 + nI j : Int32) = nI (i + 6 + j) := by rw [lit, nI_add, nI_add]
    have a12 : (nI i + 12 + nI j : Int32) = nI (i + 12 + j) := by rw [lit, nI_add, nI_add]
    have v0 : k.1 p (i + j) = h.1 p (i + j) := o p _ (by omega)
    have v6 : (wI k 24 j (h.1 p (i + j))).1 p (i + 6 + j) = h.1 p (i + 6 + j) := by rw [wI_o (by omega)]; exact o p _ (by omega)
    have st : ∀ s0 : Int32, bz s0 = true → f12_take_41 p (nI i) (nI j) s0 (nI j) (wI k 24 j (h.1 p (i + j))) = some (.inl (nI (j + 1), wI (wI (wI k 24 j (h.1 p (i + j))) 28 j s0) 29 j (h.1 p (i + 12 + j)))) := by
      intro s0 hs
      have v12 : (wI (wI k 24 j (h.1 p (i + j))) 28 j s0).1 p (i + 12 + j) = h.1 p (i + 12 + j) := by rw [wI_o (by omega), wI_o (by omega)]; exact o p _ (by omega)
      simp only [f12_take_41, lt, gd, hs, inb_t (show j < 12 by omega) (by omega), ix_nI (show j < 2 ^ 31 by omega), if_true, a12, hl, inb_t (show i + 12 + j < ln by omega) (show ln < 2 ^ 31 by omega), ix_nI (show i + 12 + j < 2 ^ 31 by omega), v12, nI_1]
    have e : f12_take_2_s p (nI i) (nI j) k = some (.inl (nI (j + 1), wI (wI (wI k 24 j (h.1 p (i + j))) 28 j (if h.1 p (i + 6 + j) = 1 then 1 else 0)) 29 j (h.1 p (i + 12 + j)))) := by
      simp only [f12_take_2_s, g6, if_false, gd, inb_t (show j < 12 by omega) (by omega), if_true, a0, hl, inb_t (show i + j < ln by omega) (show ln < 2 ^ 31 by omega), ix_nI (show i + j < 2 ^ 31 by omega), ix_nI (show j < 2 ^ 31 by omega), lt, v0, a6, inb_t (show i + 6 + j < ln by omega) (show ln < 2 ^ 31 by omega), ix_nI (show i + 6 + j < 2 ^ 31 by omega), v6, st 1 (by decide), st 0 (by decide)]
      split <;> rfl
    refine tt_eq e ⟨6 - (j + 1), by omega, j + 1, by omega, rfl, rfl, fun q k' hq => ?_, e2, fun b hbj => ?_⟩
    · show (wI (wI (wI k 24 j (h.1 p (i + j))) 28 j (if h.1 p (i + 6 + j) = 1 then 1 else 0)) 29 j (h.1 p (i + 12 + j))).1 q k' = _
      rw [wI_o (by omega), wI_o (by omega), wI_o (by omega)]
      exact o q k' hq
    · show (wI (wI (wI k 24 j (h.1 p (i + j))) 28 j (if h.1 p (i + 6 + j) = 1 then 1 else 0)) 29 j (h.1 p (i + 12 + j))).1 24 b = _ ∧ (wI (wI (wI k 24 j (h.1 p (i + j))) 28 j (if h.1 p (i + 6 + j) = 1 then 1 else 0)) 29 j (h.1 p (i + 12 + j))).1 28 b = _ ∧ (wI (wI (wI k 24 j (h.1 p (i + j))) 28 j (if h.1 p (i + 6 + j) = 1 then 1 else 0)) 29 j (h.1 p (i + 12 + j))).1 29 b = _
      by_cases q : b = j
      · subst q
        refine ⟨?_, ?_, ?_⟩
        · rw [wI_o (by omega), wI_o (by omega), wI_s]
        · rw [wI_o (by omega), wI_s]
        · rw [wI_s]
      · obtain ⟨b1, b2, b3⟩ := hb b (by omega)
        refine ⟨?_, ?_, ?_⟩
        · rw [wI_o (by omega), wI_o (by omega), wI_o (by omega)]; exact b1
        · rw [wI_o (by omega), wI_o (by omega), wI_o (by omega)]; exact b2
        · rw [wI_o (by omega), wI_o (by omega), wI_o (by omega)]; exact b3
