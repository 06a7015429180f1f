/-! The whole relation of the two memories, and how it moves. -/
def eT (S S' : Sp) : Prop := ∀ a b, (a = 0 ∧ (b ≤ 3 ∨ b = 7)) ∨ a = 1 ∨ a = 5 ∨ a = 7 ∨ (10 ≤ a ∧ a ≤ 13) ∨ (40 ≤ a ∧ a ≤ 45) → S' a b = S a b
def eF (S S' : Sp) : Prop := ∀ a b, (a = 0 ∧ (b = 14 ∨ b = 15)) ∨ (15 ≤ a ∧ a ≤ 18) → S' a b = S a b
def eI' (S S' : Sp) : Prop := ∀ a b, (a = 0 ∧ (b = 13 ∨ 20 ≤ b ∧ b ≤ 22)) ∨ (30 ≤ a ∧ a ≤ 35) → S' a b = S a b
def eP (S S' : Sp) : Prop := ∀ a b, (a = 0 ∧ b = 9) ∨ a = 14 → S' a b = S a b
def eE (S S' : Sp) : Prop := ∀ a b, a = 0 ∧ (b = 10 ∨ b = 11) → S' a b = S a b
def eU (S S' : Sp) : Prop := ∀ a b, (a = 0 ∧ (b = 0 ∨ b = 12)) ∨ (20 ≤ a ∧ a ≤ 23) ∨ a = 2 ∨ a = 4 ∨ a = 6 → S' a b = S a b
section MV
variable {S S' : Sp} {t : Nat} {c c' m m' : Hp}
theorem wfTold.mv (h : wfTold S) (e : eT S S') : wfTold S' := by
  obtain ⟨h1, h2, h3, h4, h5⟩ := h
  refine ⟨by rw [e 0 1 (by omega)]; exact h1, by rw [e 0 2 (by omega)]; exact h2, by rw [e 0 3 (by omega)]; exact h3, by rw [e 0 7 (by omega)]; exact h4, fun g hg => ?_⟩
  rw [e 0 1 (by omega)] at hg
  rw [e 12 g (by omega), e 13 g (by omega)]
  exact h5 g hg
theorem wfFnd.mv (h : wfFnd S) (e : eF S S') : wfFnd S' := by
  obtain ⟨h1, h2, h3⟩ := h
  have k : kb S' = kb S := by unfold kb; rw [e 0 15 (by omega), e 0 14 (by omega)]
  refine ⟨by rw [e 0 14 (by omega)]; exact h1, by rw [k, e 0 14 (by omega)]; exact h2, fun j hj => ?_⟩
  rw [e 0 14 (by omega)] at hj
  rw [e 15 j (by omega), e 16 j (by omega), e 17 j (by omega), e 18 j (by omega)]
  exact h3 j hj
theorem wfUnd.mv (h : wfUnd S) (e : eU S S') : wfUnd S' := by
  obtain ⟨h1, h2⟩ := h
  refine ⟨by rw [e 0 12 (by omega)]; exact h1, fun j hj => ?_⟩
  rw [e 0 12 (by omega)] at hj
  rw [e 20 j (by omega), e 21 j (by omega), e 22 j (by omega), e 23 j (by omega), e 0 0 (by omega)]
  exact h2 j hj
theorem wfTap.mv (h : wfTap S) (e : eP S S') : wfTap S' := by
  obtain ⟨h1, h2⟩ := h
  refine ⟨by rw [e 0 9 (by omega)]; exact h1, fun j hj => ?_⟩
  rw [e 0 9 (by omega)] at hj
  rw [e 14 j (by omega)]
  exact h2 j hj
theorem im_mv (e : eT S S') (i : eI' S S') : (∀ k, k = 0 ∨ 4 ≤ k ∧ k ≤ 6 → imS S' 0 k = imS S 0 k) ∧ ∀ a k, 1 ≤ a → a ≤ 9 → imS S' a k = imS S a k := by
  constructor
  · intro k hk
    have : k = 0 ∨ k = 4 ∨ k = 5 ∨ k = 6 := by omega
    rcases this with rfl | rfl | rfl | rfl
    · simp [imS, e 0 0 (by omega)]
    · simp [imS, i 0 20 (by omega)]
    · simp [imS, i 0 21 (by omega)]
    · simp [imS, i 0 22 (by omega)]
  · intro a k h1 h2
    have : a = 1 ∨ a = 2 ∨ a = 3 ∨ a = 4 ∨ a = 5 ∨ a = 6 ∨ a = 7 ∨ a = 8 ∨ a = 9 := by omega
    rcases this with rfl | rfl | rfl | rfl | rfl | rfl | rfl | rfl | rfl
    · simp [imS, e 1 k (by omega)]
    · simp [imS, i 30 k (by omega)]
    · simp [imS, i 31 k (by omega)]
    · simp [imS, i 34 k (by omega)]
    · simp [imS, e 5 k (by omega)]
    · simp [imS, i 35 k (by omega)]
    · simp [imS, e 7 k (by omega)]
    · simp [imS, i 32 k (by omega)]
    · simp [imS, i 33 k (by omega)]
theorem wfImg.mv (h : wfImg S) (e : eT S S') (i : eI' S S') : wfImg S' := by
  obtain ⟨h1, h2⟩ := h
  refine ⟨by rw [i 0 13 (by omega)]; exact h1, fun z => ?_⟩
  rw [i 0 13 (by omega)] at z
  exact (h2 z).cg (im_mv e i).1 (im_mv e i).2
theorem toldC.mv (h : toldC S t c) (hn : S 0 0 ≤ 6) (e : eT S S') (r : c'.2.2 0 11 = c.2.2 0 11) (f : ∀ q k, 55 ≤ q → c'.1 q k = c.1 q k) : toldC S' t c' := by
  obtain ⟨h1, h2, h3, h4, h5, h6, h7, h8, h9⟩ := h
  refine ⟨r.trans h1, h2, ?_, ?_, ?_, ?_, ?_, fun i hi => ?_, fun g hg => ?_⟩
  · rw [e 0 0 (by omega), f _ _ (by omega)]; exact h3
  · rw [e 0 1 (by omega), f _ _ (by omega)]; exact h4
  · rw [e 0 2 (by omega), f _ _ (by omega)]; exact h5
  · rw [e 0 3 (by omega), f _ _ (by omega)]; exact h6
  · rw [e 0 7 (by omega), f _ _ (by omega)]; exact h7
  · rw [e 0 0 (by omega)] at hi
    rw [e 10 i (by omega), f _ _ (by omega)]; exact h8 i hi
  · rw [e 0 1 (by omega)] at hg
    rw [e 11 g (by omega), e 12 g (by omega), e 13 g (by omega), f _ _ (by omega), f _ _ (by omega), f _ _ (by omega)]; exact h9 g hg
theorem lawC.mv (h : lawC S t c) (e : eT S S') (f : ∀ q k, 55 ≤ q → c'.1 q k = c.1 q k) : lawC S' t c' := by
  obtain ⟨h1, h2, h3⟩ := h.cg (D' := S') (e 0 3 (by omega)) (fun a b h1 h2 => e a b (by omega))
  exact ⟨h1, fun i hi => ⟨(f _ _ (by omega)).trans (h2 i hi).1, (f _ _ (by omega)).trans (h2 i hi).2⟩, fun l hl => ⟨(f _ _ (by omega)).trans (h3 l hl).1, (f _ _ (by omega)).trans (h3 l hl).2⟩⟩
theorem fndC.mv (h : fndC S c) (e : eF S S') (f : ∀ q k, 39 ≤ q → q ≤ 43 → c'.1 q k = c.1 q k) : fndC S' c' := by
  obtain ⟨h1, h2, h3⟩ := h
  refine ⟨by rw [e 0 14 (by omega), f _ _ (by omega) (by omega)]; exact h1, by rw [e 0 15 (by omega), f _ _ (by omega) (by omega)]; exact h2, fun j hj => ?_⟩
  rw [e 0 14 (by omega)] at hj
  rw [e 15 j (by omega), e 16 j (by omega), e 17 j (by omega), e 18 j (by omega), f _ _ (by omega) (by omega), f _ _ (by omega) (by omega), f _ _ (by omega) (by omega), f _ _ (by omega) (by omega)]
  exact h3 j hj
theorem undC.mv (h : undC S c) (e : eU S S') (f : ∀ q k, 34 ≤ q → q ≤ 38 → c'.1 q k = c.1 q k) : undC S' c' := by
  obtain ⟨h1, h2⟩ := h
  refine ⟨by rw [e 0 12 (by omega), f _ _ (by omega) (by omega)]; exact h1, fun j hj => ?_⟩
  rw [e 0 12 (by omega)] at hj
  rw [e 20 j (by omega), e 21 j (by omega), e 22 j (by omega), e 23 j (by omega), f _ _ (by omega) (by omega), f _ _ (by omega) (by omega), f _ _ (by omega) (by omega), f _ _ (by omega) (by omega)]
  exact h2 j hj
theorem imgC.mv (h : imgC S c) (hn : S 0 0 ≤ 6) (e : eT S S') (i : eI' S S') (f0 : c'.1 0 13 = c.1 0 13) (f : ∀ q k, 20 ≤ q → q ≤ 33 → c'.1 q k = c.1 q k) : imgC S' c' := by
  obtain ⟨h1, h2⟩ := h
  refine ⟨by rw [i 0 13 (by omega), f0]; exact h1, fun z => ?_⟩
  rw [i 0 13 (by omega)] at z
  have hn' : imS S 0 0 ≤ 6 := by simp [imS]; exact hn
  exact (h2 z).cg (im_mv e i).1 (im_mv e i).2 hn' (fun q k a b => f q k (by omega) (by omega))
theorem tapC.mv (h : tapC S c) (e : eP S S') (f : ∀ q k, (q = 1 ∧ k = 1) ∨ q = 2 → c'.1 q k = c.1 q k) : tapC S' c' := by
  obtain ⟨h1, h2⟩ := h
  refine ⟨by rw [e 0 9 (by omega), f _ _ (by omega)]; exact h1, fun j hj => ?_⟩
  rw [e 0 9 (by omega)] at hj
  rw [e 14 j (by omega), f _ _ (by omega)]
  exact h2 j hj
theorem fltC.mv (h : fltC S c) (e : eE S S') (f : ∀ k, k = 3 ∨ k = 4 → c'.1 3 k = c.1 3 k) : fltC S' c' :=
  ⟨by rw [e 0 10 (by omega), f _ (by omega)]; exact h.1, by rw [e 0 11 (by omega), f _ (by omega)]; exact h.2⟩
theorem zT.mv (h : zT t c) (ht : 55 ≤ t) (f : ∀ q k, 55 ≤ q → c'.1 q k = c.1 q k) : zT t c' := h.fr (fun q k a _ _ => f q k (by omega))
theorem toldM.mv (h : toldM S m) (e : eT S S') (f : ∀ q k, (q = 0 ∧ 12 ≤ k ∧ k ≤ 15) ∨ (1 ≤ q ∧ q ≤ 21) → m'.1 q k = m.1 q k) : toldM S' m' := by
  obtain ⟨h1, h2, h3, h4, h5, h6⟩ := h
  refine ⟨?_, ?_, ?_, ?_, fun i hi => ?_, fun g hg => ?_⟩
  · rw [e 0 1 (by omega), f _ _ (by omega)]; exact h1
  · rw [e 0 2 (by omega), f _ _ (by omega)]; exact h2
  · rw [e 0 3 (by omega), f _ _ (by omega)]; exact h3
  · rw [e 0 7 (by omega), f _ _ (by omega)]; exact h4
  · rw [e 0 0 (by omega)] at hi
    rw [e 10 i (by omega), f _ _ (by omega)]; exact h5 i hi
  · rw [e 0 1 (by omega)] at hg
    rw [e 11 g (by omega), e 12 g (by omega), e 13 g (by omega), f _ _ (by omega), f _ _ (by omega), f _ _ (by omega)]; exact h6 g hg
theorem lawM.mv (h : lawM S m) (e : eT S S') (f : ∀ q k, 1 ≤ q → q ≤ 21 → m'.1 q k = m.1 q k) : lawM S' m' := by
  obtain ⟨h1, h2⟩ := h
  refine ⟨fun i hi => ?_, fun l hl => ?_⟩
  · rw [e 0 3 (by omega)] at hi
    rw [e 40 i (by omega), e 44 i (by omega), e 45 i (by omega), f _ _ (by omega) (by omega), f _ _ (by omega) (by omega), f _ _ (by omega) (by omega)]
    exact h1 i hi
  · rw [e 42 l (by omega), e 43 l (by omega), f _ _ (by omega) (by omega), f _ _ (by omega) (by omega), f _ _ (by omega) (by omega)]
    exact h2 l hl
theorem fndM.mv (h : fndM S m) (e : eF S S') (f : ∀ q k, (q = 0 ∧ (k = 65 ∨ k = 66)) ∨ q = 34 → m'.1 q k = m.1 q k) : fndM S' m' := by
  obtain ⟨h1, h2, h3⟩ := h
  refine ⟨by rw [e 0 14 (by omega), f _ _ (by omega)]; exact h1, by rw [e 0 15 (by omega), f _ _ (by omega)]; exact h2, fun j hj => ?_⟩
  rw [e 0 14 (by omega)] at hj
  rw [e 15 j (by omega), e 16 j (by omega), e 17 j (by omega), e 18 j (by omega), f _ _ (by omega), f _ _ (by omega), f _ _ (by omega)]
  exact h3 j hj
theorem uv_mv (e : eU S S') {a : Nat} (ha : a = 2 ∨ a = 4 ∨ a = 6) (b : Nat) : ∀ (n j : Nat), uv S' a b n j = uv S a b n j
  | 0, j => e a b (by omega)
  | n + 1, j => by
    have hc : cp a = 21 ∨ cp a = 22 ∨ cp a = 23 := by rcases ha with rfl | rfl | rfl <;> simp [cp]
    unfold uv
    rw [e 20 j (by omega), e (cp a) j (by omega), uv_mv e ha b n (j + 1)]
theorem undM.mv (h : undM S m) (e : eU S S') (f : ∀ q k, (q = 0 ∧ k = 69) ∨ q = 36 → m'.1 q k = m.1 q k) : undM S' m' := by
  obtain ⟨h1, h2⟩ := h
  refine ⟨by rw [e 0 12 (by omega), f _ _ (by omega)]; exact h1, fun j b hj hb => ?_⟩
  rw [e 0 12 (by omega)] at hj ⊢
  rw [e 0 0 (by omega)] at hb
  rw [uv_mv e (by omega), uv_mv e (by omega), uv_mv e (by omega), f _ _ (by omega), f _ _ (by omega), f _ _ (by omega)]
  exact h2 j b hj hb
theorem imgM.mv (h : imgM S m) (e : eT S S') (i : eI' S S') (f : ∀ q k, (q = 0 ∧ k = 71) ∨ q = 37 ∨ q = 38 → m'.1 q k = m.1 q k) (g : m'.2.1 0 74 = m.2.1 0 74) : imgM S' m' := by
  obtain ⟨h1, h2⟩ := h
  refine ⟨by rw [i 0 13 (by omega), f _ _ (by omega)]; exact h1, fun z => ?_⟩
  rw [i 0 13 (by omega)] at z
  obtain ⟨a1, a2, a3, a4⟩ := h2 z
  refine ⟨by rw [i 0 20 (by omega), f _ _ (by omega)]; exact a1, by rw [i 0 22 (by omega), f _ _ (by omega)]; exact a2, by rw [i 0 21 (by omega), g]; exact a3, fun b hb => ?_⟩
  rw [e 0 0 (by omega)] at hb
  rw [i 30 b (by omega), i 31 b (by omega), i 32 b (by omega), i 33 b (by omega), i 34 b (by omega), i 35 b (by omega), f _ _ (by omega), f _ _ (by omega), f _ _ (by omega), f _ _ (by omega), f _ _ (by omega), f _ _ (by omega)]
  exact a4 b hb
theorem tapM.mv (h : tapM S m) (e : eP S S') (f : ∀ q k, (q = 0 ∧ k = 1) ∨ q = 1 → m'.1 q k = m.1 q k) : tapM S' m' := by
  obtain ⟨h1, h2⟩ := h
  refine ⟨by rw [e 0 9 (by omega), f _ _ (by omega)]; exact h1, fun j hj => ?_⟩
  rw [e 0 9 (by omega)] at hj
  rw [e 14 j (by omega), f _ _ (by omega)]
  exact h2 j hj
theorem fltM.mv (h : fltM S m) (e : eE S S') (f : ∀ k, k = 4 ∨ k = 5 → m'.1 0 k = m.1 0 k) : fltM S' m' :=
  ⟨by rw [e 0 10 (by omega), f _ (by omega)]; exact h.1, by rw [e 0 11 (by omega), f _ (by omega)]; exact h.2⟩
theorem wrdM.mv (h : wrdM m) (f : ∀ k, m'.1 2 k = m.1 2 k) : wrdM m' := fun j hj => (f j).trans (h j hj)
end MV
