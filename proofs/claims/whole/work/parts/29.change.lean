/-! A change by call: the spec of both sides' rows; undo. -/
def pshU (S : Sp) (b : Nat) : Sp := fun a j =>
  if a = 0 ∧ j = 12 then S 0 12 - dd (S 0 12) + 1
  else if 20 ≤ a ∧ a ≤ 23 then (if j < S 0 12 - dd (S 0 12) then S a (j + dd (S 0 12)) else if a = 20 then b else if a = 21 then S 2 b else if a = 22 then S 4 b else S 6 b)
  else S a j
theorem psh_o {S : Sp} {b a j : Nat} (h : ¬ (a = 0 ∧ j = 12)) (h2 : ¬ (20 ≤ a ∧ a ≤ 23)) : pshU S b a j = S a j := by unfold pshU; rw [if_neg h, if_neg h2]
theorem psh_n {S : Sp} {b : Nat} : pshU S b 0 12 = S 0 12 - dd (S 0 12) + 1 := by unfold pshU; rw [if_pos ⟨rfl, rfl⟩]
theorem psh_lt {S : Sp} {b a j : Nat} (h1 : 20 ≤ a) (h2 : a ≤ 23) (h : j < S 0 12 - dd (S 0 12)) : pshU S b a j = S a (j + dd (S 0 12)) := by unfold pshU; rw [if_neg (by omega), if_pos ⟨h1, h2⟩, if_pos h]
theorem psh_20 {S : Sp} {b : Nat} : pshU S b 20 (S 0 12 - dd (S 0 12)) = b := by unfold pshU; rw [if_neg (by omega), if_pos (by omega), if_neg (by omega), if_pos rfl]
theorem psh_cp {S : Sp} {b a : Nat} (ha : a = 2 ∨ a = 4 ∨ a = 6) : pshU S b (cp a) (S 0 12 - dd (S 0 12)) = S a b := by
  rcases ha with rfl | rfl | rfl
  · show pshU S b 21 (S 0 12 - dd (S 0 12)) = S 2 b
    unfold pshU; rw [if_neg (by omega), if_pos (by omega), if_neg (by omega), if_neg (by omega), if_pos rfl]
  · show pshU S b 22 (S 0 12 - dd (S 0 12)) = S 4 b
    unfold pshU; rw [if_neg (by omega), if_pos (by omega), if_neg (by omega), if_neg (by omega), if_neg (by omega), if_pos rfl]
  · show pshU S b 23 (S 0 12 - dd (S 0 12)) = S 6 b
    unfold pshU; rw [if_neg (by omega), if_pos (by omega), if_neg (by omega), if_neg (by omega), if_neg (by omega), if_neg (by omega)]
theorem cp_in {a : Nat} : 21 ≤ cp a ∧ cp a ≤ 23 := by unfold cp; split; omega; split <;> omega
theorem uv_psh {S : Sp} {b0 a b : Nat} (ha : a = 2 ∨ a = 4 ∨ a = 6) : ∀ (k j : Nat), j + k = S 0 12 - dd (S 0 12) → uv (pshU S b0) a b (k + 1) j = uv S a b k (j + dd (S 0 12))
  | 0, j, h => by
    have hj : j = S 0 12 - dd (S 0 12) := by omega
    subst hj
    show (if pshU S b0 20 (S 0 12 - dd (S 0 12)) = b then pshU S b0 (cp a) (S 0 12 - dd (S 0 12)) else pshU S b0 a b) = S a b
    rw [psh_20, psh_cp ha, psh_o (by omega) (by omega)]
    by_cases q : b0 = b
    · rw [if_pos q, q]
    · rw [if_neg q]
  | k + 1, j, h => by
    have := @cp_in a
    have ih := uv_psh (S := S) (b0 := b0) (b := b) ha k (j + 1) (by omega)
    show (if pshU S b0 20 j = b then pshU S b0 (cp a) j else uv (pshU S b0) a b (k + 1) (j + 1)) = (if S 20 (j + dd (S 0 12)) = b then S (cp a) (j + dd (S 0 12)) else uv S a b k (j + dd (S 0 12) + 1))
    rw [psh_lt (by omega) (by omega) (by omega), psh_lt (by omega) (by omega) (by omega), ih, show j + 1 + dd (S 0 12) = j + dd (S 0 12) + 1 by omega]
theorem uv_chg {P : Sp} {a0 b0 v a b : Nat} (ha0 : a0 = 2 ∨ a0 = 4 ∨ a0 = 6) : ∀ (k j : Nat), P 20 (j + k) = b0 → uv (up2 P a0 b0 v) a b (k + 1) j = uv P a b (k + 1) j
  | 0, j, h => by
    have := @cp_in a
    show (if up2 P a0 b0 v 20 j = b then up2 P a0 b0 v (cp a) j else up2 P a0 b0 v a b) = (if P 20 j = b then P (cp a) j else P a b)
    rw [up2_of (by omega), up2_of (by omega)]
    by_cases q : P 20 j = b
    · rw [if_pos q, if_pos q]
    · rw [if_neg q, if_neg q, up2_of]
      intro e
      have h : P 20 j = b0 := h
      exact q (h.trans e.2.symm)
  | k + 1, j, h => by
    have := @cp_in a
    have ih := uv_chg (P := P) (b0 := b0) (v := v) (a := a) (b := b) ha0 k (j + 1) (by rw [← h, show j + 1 + k = j + (k + 1) by omega])
    show (if up2 P a0 b0 v 20 j = b then up2 P a0 b0 v (cp a) j else uv (up2 P a0 b0 v) a b (k + 1) (j + 1)) = (if P 20 j = b then P (cp a) j else uv P a b (k + 1) (j + 1))
    rw [up2_of (by omega), up2_of (by omega), ih]
def kCf (a : Nat) : Nat := if a = 2 then 5 else if a = 4 then 9 else 10
def qMf (a : Nat) : Nat := if a = 2 then 24 else if a = 4 then 29 else 28
def okV (a v : Nat) : Prop := (a = 2 ∧ v ≤ 99) ∨ (a = 4 ∧ v < 1024 ∧ v % 2 = 0) ∨ (a = 6 ∧ v ≤ 1)
/-- a change of one of spring, missing, stolen of box b -/
theorem nowC.set {S : Sp} {c : Hp} {a b v : Nat} (ha : a = 2 ∨ a = 4 ∨ a = 6) (hn : S 0 0 ≤ 6) (hb : b < S 0 0) (h : nowC S c) : nowC (up2 S a b v) (wI c (8 + 2 * b) (kCf a) (nI v)) := by
  have e0 : ∀ k, up2 S a b v 0 k = S 0 k := fun k => up2_of (by omega)
  obtain ⟨h1, h2, h3, h4, h5⟩ := h
  refine ⟨by rw [e0, wI_o (by omega)]; exact h1, by rw [e0, wI_o (by omega)]; exact h2, by rw [e0, wI_o (by omega)]; exact h3, by rw [e0, wI_o (by omega)]; exact h4, fun i hi => ?_⟩
  rw [e0] at hi
  obtain ⟨b1, b2, b3, b4, b5, b6, b7, b8, b9, b10⟩ := h5 i hi
  have ep : ∀ k, up2 S a b v 7 k = S 7 k := fun k => up2_of (by omega)
  have epn : pinN (up2 S a b v) i = pinN S i := by
    unfold pinN
    exact cnt_congr (fun k _ => by rw [ep])
  by_cases q : i = b
  · subst q
    rcases ha with rfl | rfl | rfl
    · refine ⟨?_, ?_, ?_, ?_, ?_, ?_, ?_, ?_, ?_, fun k hk => ?_⟩
      · rw [up2_of (by omega), wI_o (by unfold kCf; simp)]; exact b1
      · rw [epn, wI_o (by unfold kCf; simp)]; exact b2
      · rw [up2_of (by omega), wI_o (by unfold kCf; simp)]; exact b3
      · rw [up2_s]; exact wI_s
      · rw [up2_of (by omega), wI_o (by unfold kCf; simp)]; exact b5
      · rw [up2_of (by omega), wI_o (by unfold kCf; simp)]; exact b6
      · rw [up2_of (by omega), wI_o (by unfold kCf; simp)]; exact b7
      · rw [up2_of (by omega), wI_o (by unfold kCf; simp)]; exact b8
      · rw [up2_of (by omega), wI_o (by unfold kCf; simp)]; exact b9
      · rw [ep, wI_o (by omega)]; exact b10 k hk
    · refine ⟨?_, ?_, ?_, ?_, ?_, ?_, ?_, ?_, ?_, fun k hk => ?_⟩
      · rw [up2_of (by omega), wI_o (by unfold kCf; simp)]; exact b1
      · rw [epn, wI_o (by unfold kCf; simp)]; exact b2
      · rw [up2_of (by omega), wI_o (by unfold kCf; simp)]; exact b3
      · rw [up2_of (by omega), wI_o (by unfold kCf; simp)]; exact b4
      · rw [up2_of (by omega), wI_o (by unfold kCf; simp)]; exact b5
      · rw [up2_of (by omega), wI_o (by unfold kCf; simp)]; exact b6
      · rw [up2_of (by omega), wI_o (by unfold kCf; simp)]; exact b7
      · rw [up2_s]; exact wI_s
      · rw [up2_of (by omega), wI_o (by unfold kCf; simp)]; exact b9
      · rw [ep, wI_o (by omega)]; exact b10 k hk
    · refine ⟨?_, ?_, ?_, ?_, ?_, ?_, ?_, ?_, ?_, fun k hk => ?_⟩
      · rw [up2_of (by omega), wI_o (by unfold kCf; simp)]; exact b1
      · rw [epn, wI_o (by unfold kCf; simp)]; exact b2
      · rw [up2_of (by omega), wI_o (by unfold kCf; simp)]; exact b3
      · rw [up2_of (by omega), wI_o (by unfold kCf; simp)]; exact b4
      · rw [up2_of (by omega), wI_o (by unfold kCf; simp)]; exact b5
      · rw [up2_of (by omega), wI_o (by unfold kCf; simp)]; exact b6
      · rw [up2_of (by omega), wI_o (by unfold kCf; simp)]; exact b7
      · rw [up2_of (by omega), wI_o (by unfold kCf; simp)]; exact b8
      · rw [up2_s]; exact wI_s
      · rw [ep, wI_o (by omega)]; exact b10 k hk
  · have ea : ∀ x, up2 S a b v x i = S x i := fun x => up2_of (by omega)
    refine ⟨?_, ?_, ?_, ?_, ?_, ?_, ?_, ?_, ?_, fun k hk => ?_⟩
    · rw [ea, wI_o (by omega)]; exact b1
    · rw [epn, wI_o (by omega)]; exact b2
    · rw [ea, wI_o (by omega)]; exact b3
    · rw [ea, wI_o (by omega)]; exact b4
    · rw [ea, wI_o (by omega)]; exact b5
    · rw [ea, wI_o (by omega)]; exact b6
    · rw [ea, wI_o (by omega)]; exact b7
    · rw [ea, wI_o (by omega)]; exact b8
    · rw [ea, wI_o (by omega)]; exact b9
    · rw [ep, wI_o (by omega)]; exact b10 k hk
theorem nowM.set {S : Sp} {m : Hp} {a b v : Nat} (ha : a = 2 ∨ a = 4 ∨ a = 6) (h : nowM S m) : nowM (up2 S a b v) (wI m (qMf a) b (nI v)) := by
  have e0 : ∀ k, up2 S a b v 0 k = S 0 k := fun k => up2_of (by omega)
  have hq : qMf a = 24 ∨ qMf a = 29 ∨ qMf a = 28 := by rcases ha with rfl | rfl | rfl <;> simp [qMf]
  obtain ⟨h1, h2, h3, h4, h5⟩ := h
  refine ⟨by rw [e0, wI_o (by omega)]; exact h1, by rw [e0, wI_o (by omega)]; exact h2, by rw [e0]; exact h3, by rw [e0, wI_o (by omega)]; exact h4, fun i hi => ?_⟩
  rw [e0] at hi
  obtain ⟨b1, b2, b3, b4, b5, b6, b7, b8, b9⟩ := h5 i hi
  have ep : ∀ k, up2 S a b v 7 k = S 7 k := fun k => up2_of (by omega)
  have e24 : (wI m (qMf a) b (nI v)).1 24 i = nI (up2 S a b v 2 i) := by
    by_cases q : a = 2 ∧ i = b
    · obtain ⟨rfl, rfl⟩ := q; rw [up2_s]; exact wI_s
    · rw [up2_of (by omega), wI_o (by rcases ha with rfl | rfl | rfl <;> simp [qMf] <;> omega)]; exact b3
  have e29 : (wI m (qMf a) b (nI v)).1 29 i = nI (up2 S a b v 4 i) := by
    by_cases q : a = 4 ∧ i = b
    · obtain ⟨rfl, rfl⟩ := q; rw [up2_s]; exact wI_s
    · rw [up2_of (by omega), wI_o (by rcases ha with rfl | rfl | rfl <;> simp [qMf] <;> omega)]; exact b7
  have e28 : (wI m (qMf a) b (nI v)).1 28 i = nI (up2 S a b v 6 i) := by
    by_cases q : a = 6 ∧ i = b
    · obtain ⟨rfl, rfl⟩ := q; rw [up2_s]; exact wI_s
    · rw [up2_of (by omega), wI_o (by rcases ha with rfl | rfl | rfl <;> simp [qMf] <;> omega)]; exact b8
  refine ⟨?_, ?_, e24, ?_, ?_, ?_, e29, e28, fun k hk => ?_⟩
  · rw [up2_of (by omega), wI_o (by omega)]; exact b1
  · rw [up2_of (by omega), wI_o (by omega)]; exact b2
  · rw [up2_of (by omega), wI_o (by omega)]; exact b4
  · rw [up2_of (by omega), wI_o (by omega)]; exact b5
  · rw [up2_of (by omega), wI_o (by omega)]; exact b6
  · rw [ep, wI_o (by omega)]; exact b9 k hk
theorem wfNow.set {S : Sp} {a b v : Nat} (hv : okV a v) (w : wfNow S) : wfNow (up2 S a b v) := by
  unfold okV at hv
  have e0 : ∀ k, up2 S a b v 0 k = S 0 k := fun k => up2_of (by omega)
  obtain ⟨w1, w2, w3, w4, w5⟩ := w
  refine ⟨by rw [e0]; exact w1, by rw [e0]; exact w2, by rw [e0]; exact w3, by rw [e0, e0]; exact w4, fun i hi => ?_⟩
  rw [e0] at hi
  obtain ⟨x1, x2, x3, x4, x5, x6, x7, x8, x9⟩ := w5 i hi
  have ep : ∀ k, up2 S a b v 7 k = S 7 k := fun k => up2_of (by omega)
  rw [e0]
  refine ⟨by rw [up2_of (by omega)]; exact x1, ?_, by rw [up2_of (by omega)]; exact x3, ?_, by rw [up2_of (by omega)]; exact x5, ?_, by rw [up2_of (by omega)]; exact x7, by rw [up2_of (by omega)]; exact x8, fun k hk => by rw [ep]; exact x9 k hk⟩
  · by_cases q : a = 2 ∧ i = b
    · obtain ⟨rfl, rfl⟩ := q; rw [up2_s]; omega
    · rw [up2_of (by omega)]; exact x2
  · by_cases q : a = 4 ∧ i = b
    · obtain ⟨rfl, rfl⟩ := q; rw [up2_s]; omega
    · rw [up2_of (by omega)]; exact x4
  · by_cases q : a = 6 ∧ i = b
    · obtain ⟨rfl, rfl⟩ := q; rw [up2_s]; omega
    · rw [up2_of (by omega)]; exact x6
