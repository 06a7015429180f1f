/-! keep, back. -/
theorem wC_o {h : Hp} {a b sp dp n q k : Nat} (e : q ≠ b) : (wC h a b sp dp n).1 q k = h.1 q k := by
  show (if q = b then va_cpy (h.1 a) (h.1 b) sp dp n else h.1 q) k = _
  rw [if_neg e]
theorem wC_s {h : Hp} {a b k : Nat} (hk : k < 8) : (wC h a b 0 0 8).1 b k = h.1 a k := by
  show (if b = b then va_cpy (h.1 a) (h.1 b) 0 0 8 else h.1 b) k = _
  rw [if_pos rfl, pk_cpy_in (Nat.zero_le k) (by omega), show 0 + (k - 0) = k by omega]
theorem copyBox {h : Hp} {p q : Nat} (h1 : p ≠ q) (h2 : p + 1 ≠ q) (h3 : p ≠ q + 1) (hz : bz (h.1 q 10) = true) : ∃ h', f0_copyOf p q h = some h' ∧ (∀ x k, x ≠ p → x ≠ p + 1 → h'.1 x k = h.1 x k) ∧ h'.2 = h.2 ∧ (∀ k, 1 ≤ k → k ≤ 10 → h'.1 p k = h.1 q k) ∧ ∀ k, k < 8 → h'.1 (p + 1) k = h.1 (q + 1) k := by
  obtain ⟨k, ek⟩ : ∃ k, wC h (q + 1) (p + 1) (ix 0) (ix 0) (ix 8) = k := ⟨_, rfl⟩
  have hk : ∀ j, k.1 q j = h.1 q j := fun j => by rw [← ek]; exact wC_o (by omega)
  have hko : ∀ x j, x ≠ p + 1 → k.1 x j = h.1 x j := fun x j hx => by rw [← ek]; exact wC_o hx
  have hks : ∀ j, j < 8 → k.1 (p + 1) j = h.1 (q + 1) j := fun j hj => by rw [← ek]; exact wC_s hj
  have hk2 : k.2 = h.2 := by rw [← ek]; rfl
  have step : ∀ (x : Hp) (i : Nat) (v : Int32), (∀ j, x.1 q j = h.1 q j) → ∀ j, (wI x p i v).1 q j = h.1 q j := fun x i v hx j => by rw [wI_o (by omega)]; exact hx j
  have k1 := step k 1 (h.1 q 1) hk
  have k2 := step _ 2 (h.1 q 2) k1
  have k3 := step _ 3 (h.1 q 3) k2
  have k4 := step _ 4 (h.1 q 4) k3
  have k5 := step _ 5 (h.1 q 5) k4
  have k6 := step _ 6 (h.1 q 6) k5
  have k7 := step _ 7 (h.1 q 7) k6
  have k8 := step _ 8 (h.1 q 8) k7
  have k9 := step _ 9 (h.1 q 9) k8
  have key : f0_copyOf p q h = some (wI (wI (wI (wI (wI (wI (wI (wI (wI (wI k p 1 (h.1 q 1)) p 2 (h.1 q 2)) p 3 (h.1 q 3)) p 4 (h.1 q 4)) p 5 (h.1 q 5)) p 6 (h.1 q 6)) p 7 (h.1 q 7)) p 8 (h.1 q 8)) p 9 (h.1 q 9)) p 10 (h.1 q 10)) := by
    simp only [f0_copyOf, ek, lt, gd, hk, k1, k2, k3, k4, k5, k6, k7, k8, k9, hz, if_true]
  refine ⟨_, key, fun x j hx hx1 => ?_, hk2, fun j hk1 hk2 => ?_, fun j hj => ?_⟩
  · rw [wI_o (by omega), wI_o (by omega), wI_o (by omega), wI_o (by omega), wI_o (by omega), wI_o (by omega), wI_o (by omega), wI_o (by omega), wI_o (by omega), wI_o (by omega), hko x j hx1]
  · have : j = 1 ∨ j = 2 ∨ j = 3 ∨ j = 4 ∨ j = 5 ∨ j = 6 ∨ j = 7 ∨ j = 8 ∨ j = 9 ∨ j = 10 := by omega
    rcases this with rfl | rfl | rfl | rfl | rfl | rfl | rfl | rfl | rfl | rfl
    · rw [wI_o (by omega), wI_o (by omega), wI_o (by omega), wI_o (by omega), wI_o (by omega), wI_o (by omega), wI_o (by omega), wI_o (by omega), wI_o (by omega), wI_s]
    · rw [wI_o (by omega), wI_o (by omega), wI_o (by omega), wI_o (by omega), wI_o (by omega), wI_o (by omega), wI_o (by omega), wI_o (by omega), wI_s]
    · rw [wI_o (by omega), wI_o (by omega), wI_o (by omega), wI_o (by omega), wI_o (by omega), wI_o (by omega), wI_o (by omega), wI_s]
    · rw [wI_o (by omega), wI_o (by omega), wI_o (by omega), wI_o (by omega), wI_o (by omega), wI_o (by omega), wI_s]
    · rw [wI_o (by omega), wI_o (by omega), wI_o (by omega), wI_o (by omega), wI_o (by omega), wI_s]
    · rw [wI_o (by omega), wI_o (by omega), wI_o (by omega), wI_o (by omega), wI_s]
    · rw [wI_o (by omega), wI_o (by omega), wI_o (by omega), wI_s]
    · rw [wI_o (by omega), wI_o (by omega), wI_s]
    · rw [wI_o (by omega), wI_s]
    · rw [wI_s]
  · rw [wI_o (by omega), wI_o (by omega), wI_o (by omega), wI_o (by omega), wI_o (by omega), wI_o (by omega), wI_o (by omega), wI_o (by omega), wI_o (by omega), wI_o (by omega)]
    exact hks j hj
theorem boxC.copy {S : Sp} {i p q : Nat} {h h' : Hp} (b : boxC S i q h) (e : ∀ k, 1 ≤ k → k ≤ 10 → h'.1 p k = h.1 q k) (e2 : ∀ k, k < 8 → h'.1 (p + 1) k = h.1 (q + 1) k) : boxC S i p h' := by
  obtain ⟨b1, b2, b3, b4, b5, b6, b7, b8, b9, b10⟩ := b
  exact ⟨(e _ (by omega) (by omega)).trans b1, (e _ (by omega) (by omega)).trans b2, (e _ (by omega) (by omega)).trans b3, (e _ (by omega) (by omega)).trans b4, (e _ (by omega) (by omega)).trans b5, (e _ (by omega) (by omega)).trans b6, (e _ (by omega) (by omega)).trans b7, (e _ (by omega) (by omega)).trans b8, (e _ (by omega) (by omega)).trans b9, fun k hk => (e2 k hk).trans (b10 k hk)⟩
/-- a shelf at p -/
def shC (S : Sp) (p : Nat) (c : Hp) : Prop := c.1 p 1 = nI (S 0 0) ∧ c.1 p 2 = nI (S 0 4) ∧ c.1 p 3 = nI (S 0 5) ∧ c.1 p 4 = nI (S 0 6) ∧ ∀ i, i < S 0 0 → boxC S i (p + 1 + 1 + 2 * i) c
theorem shC_now {S : Sp} {c : Hp} : shC S 6 c ↔ nowC S c := by
  unfold shC nowC
  have e : ∀ i, 6 + 1 + 1 + 2 * i = 8 + 2 * i := fun i => by omega
  constructor
  · rintro ⟨a, b, d, f, g⟩; exact ⟨a, b, d, f, fun i hi => by rw [← e]; exact g i hi⟩
  · rintro ⟨a, b, d, f, g⟩; exact ⟨a, b, d, f, fun i hi => by rw [e]; exact g i hi⟩
theorem copyShelf {S : Sp} {c : Hp} {p q : Nat} (w : wfNow S) (hpq : (p = 20 ∧ q = 6) ∨ (p = 6 ∧ q = 20)) (h : shC S q c) : ∃ c', f9_copyOf p q c = some c' ∧ shC S p c' ∧ (∀ x k, ¬ (p ≤ x ∧ x ≤ p + 13) → c'.1 x k = c.1 x k) ∧ c'.2 = c.2 := by
  have hn := w.1
  obtain ⟨h1, h2, h3, h4, h5⟩ := h
  have key : ∀ n, n ≤ S 0 0 → ∃ c', f9_copyOf_10 p q 0 (wI c p 1 (nI (S 0 0))) = lp (fun z : Int32 × Hp => f9_copyOf_10_s p q z.1 z.2) (nI n, c') ∧ c'.1 p 1 = nI (S 0 0) ∧ (∀ x k, ¬ (p ≤ x ∧ x ≤ p + 13) → c'.1 x k = c.1 x k) ∧ c'.2 = c.2 ∧ ∀ i, i < n → boxC S i (p + 1 + 1 + 2 * i) c' := by
    intro n
    induction n with
    | zero => intro _; exact ⟨_, rfl, wI_s, fun x k hx => wI_o (by omega), rfl, fun i hi => by omega⟩
    | succ n ih =>
      intro hnn
      obtain ⟨k, e, e1, o, e2, hb⟩ := ih (by omega)
      have bq : boxC S n (q + 1 + 1 + 2 * n) k := (h5 n (by omega)).fr (fun j => o _ _ (by omega)) (fun j => o _ _ (by omega))
      obtain ⟨k', f, fo, f2, fa, fb⟩ := copyBox (h := k) (p := p + 1 + 1 + 2 * n) (q := q + 1 + 1 + 2 * n) (by omega) (by omega) (by omega) (by rw [bq.2.2.2.2.2.2.2.2.1]; exact bz_nI (w.2.2.2.2 n (by omega)).2.2.2.2.2.1)
      refine ⟨k', ?_, (fo _ _ (by omega) (by omega)).trans e1, fun x j hx => (fo _ _ (by omega) (by omega)).trans (o x j hx), f2.trans e2, fun i hi => ?_⟩
      · rw [e]
        refine lp_inl ?_
        simp only [f9_copyOf_10_s, e1, nI_ge (show n < S 0 0 by omega) (show S 0 0 < 2 ^ 31 by omega), if_false, gd, inb_t (show n < 6 by omega) (by omega), if_true, ix_nI (show n < 2 ^ 31 by omega), f, Option.bind_some, nI_1]
      · by_cases z : i = n
        · subst z; exact bq.copy fa fb
        · exact (hb i (by omega)).fr (fun j => fo _ _ (by omega) (by omega)) (fun j => fo _ _ (by omega) (by omega))
  obtain ⟨k, e, e1, o, e2, hb⟩ := key (S 0 0) (Nat.le_refl _)
  have k2 : k.1 q 2 = nI (S 0 4) := (o _ _ (by omega)).trans h2
  have k3 : (wI k p 2 (nI (S 0 4))).1 q 3 = nI (S 0 5) := by rw [wI_o (by omega)]; exact (o _ _ (by omega)).trans h3
  have k4 : (wI (wI k p 2 (nI (S 0 4))) p 3 (nI (S 0 5))).1 q 4 = nI (S 0 6) := by rw [wI_o (by omega), wI_o (by omega)]; exact (o _ _ (by omega)).trans h4
  refine ⟨wI (wI (wI k p 2 (nI (S 0 4))) p 3 (nI (S 0 5))) p 4 (nI (S 0 6)), ?_, ⟨?_, ?_, ?_, ?_, fun i hi => ?_⟩, fun x j hx => ?_, e2⟩
  · simp only [f9_copyOf, lt, h1, e]
    refine lp_inr (o := some _) ?_
    simp only [f9_copyOf_10_s, e1, nI_le (Nat.le_refl (S 0 0)) (show S 0 0 < 2 ^ 31 by omega), if_true, f9_copyOf_39, lt, k2, k3, k4, Option.map_some]
  · rw [wI_o (by omega), wI_o (by omega), wI_o (by omega)]; exact e1
  · rw [wI_o (by omega), wI_o (by omega), wI_s]
  · rw [wI_o (by omega), wI_s]
  · rw [wI_s]
  · exact (hb i hi).fr (fun j => by rw [wI_o (by omega), wI_o (by omega), wI_o (by omega)]) (fun j => by rw [wI_o (by omega), wI_o (by omega), wI_o (by omega)])
  · rw [wI_o (by omega), wI_o (by omega), wI_o (by omega)]; exact o x j hx
/-- the image: 0 13 whether there is one; 0 20 .. 22 year, number, damp years; 30 spring, 31 false, 32 played, 33 laughter, 34 missing, 35 stolen -/
def imS (S : Sp) : Sp := fun a b => if a = 0 ∧ b = 4 then S 0 20 else if a = 0 ∧ b = 5 then S 0 21 else if a = 0 ∧ b = 6 then S 0 22 else if a = 2 then S 30 b else if a = 3 then S 31 b else if a = 8 then S 32 b else if a = 9 then S 33 b else if a = 4 then S 34 b else if a = 6 then S 35 b else S a b
def keS (S : Sp) : Sp := fun a b => if a = 0 ∧ b = 13 then 1 else if a = 0 ∧ b = 20 then S 0 4 else if a = 0 ∧ b = 21 then S 0 5 else if a = 0 ∧ b = 22 then S 0 6 else if a = 30 then S 2 b else if a = 31 then S 3 b else if a = 32 then S 8 b else if a = 33 then S 9 b else if a = 34 then S 4 b else if a = 35 then S 6 b else S a b
def baS (S : Sp) : Sp := fun a b => if a = 0 ∧ b = 12 then 0 else imS S a b
def wfImg (S : Sp) : Prop := S 0 13 ≤ 1 ∧ (S 0 13 = 1 → wfNow (imS S))
def imgC (S : Sp) (c : Hp) : Prop := c.1 0 13 = nI (S 0 13) ∧ (S 0 13 = 1 → shC (imS S) 20 c)
def imgM (S : Sp) (m : Hp) : Prop := m.1 0 71 = nI (S 0 13) ∧ (S 0 13 = 1 → m.1 38 18 = nI (S 0 20) ∧ m.1 38 19 = nI (S 0 22) ∧ m.2.1 0 74 = lN (S 0 21) ∧ ∀ b, b < S 0 0 → m.1 37 b = nI (S 30 b) ∧ m.1 37 (6 + b) = nI (S 35 b) ∧ m.1 37 (12 + b) = nI (S 34 b) ∧ m.1 38 b = nI (S 31 b) ∧ m.1 38 (6 + b) = nI (S 32 b) ∧ m.1 38 (12 + b) = nI (S 33 b))
theorem im_ke {S : Sp} : (∀ k, k = 0 ∨ 4 ≤ k ∧ k ≤ 6 → imS (keS S) 0 k = S 0 k) ∧ ∀ a k, 1 ≤ a → a ≤ 9 → imS (keS S) a k = S a k := by
  constructor
  · intro k hk
    have : k = 0 ∨ k = 4 ∨ k = 5 ∨ k = 6 := by omega
    rcases this with rfl | rfl | rfl | rfl <;> simp [imS, keS]
  · intro a k h1 h2
    have : a = 1 ∨ a = 2 ∨ a = 3 ∨ a = 4 ∨ a = 5 ∨ a = 6 ∨ a = 7 ∨ a = 8 ∨ a = 9 := by omega
    rcases this with rfl | rfl | rfl | rfl | rfl | rfl | rfl | rfl | rfl <;> simp [imS, keS]
theorem shC.cg {S S' : Sp} {p : Nat} {c c' : Hp} (h : shC S p c) (e0 : ∀ k, k = 0 ∨ 4 ≤ k ∧ k ≤ 6 → S' 0 k = S 0 k) (e : ∀ a k, 1 ≤ a → a ≤ 9 → S' a k = S a k) (hn : S 0 0 ≤ 6) (f : ∀ q k, p ≤ q → q ≤ p + 13 → c'.1 q k = c.1 q k) : shC S' p c' := by
  obtain ⟨h1, h2, h3, h4, h5⟩ := h
  refine ⟨by rw [e0 0 (by omega), f p 1 (by omega) (by omega)]; exact h1, by rw [e0 4 (by omega), f p 2 (by omega) (by omega)]; exact h2, by rw [e0 5 (by omega), f p 3 (by omega) (by omega)]; exact h3, by rw [e0 6 (by omega), f p 4 (by omega) (by omega)]; exact h4, fun i hi => ?_⟩
  rw [e0 0 (by omega)] at hi
  have hb : boxC S i (p + 1 + 1 + 2 * i) c' := (h5 i hi).fr (fun k => f _ _ (by omega) (by omega)) (fun k => f _ _ (by omega) (by omega))
  have epn : pinN S' i = pinN S i := by
    unfold pinN
    exact cnt_congr (fun k _ => by rw [e 7 _ (by omega) (by omega)])
  obtain ⟨b1, b2, b3, b4, b5, b6, b7, b8, b9, b10⟩ := hb
  exact ⟨by rw [e 1 i (by omega) (by omega)]; exact b1, by rw [epn]; exact b2, by rw [e 5 i (by omega) (by omega)]; exact b3, by rw [e 2 i (by omega) (by omega)]; exact b4, by rw [e 3 i (by omega) (by omega)]; exact b5, by rw [e 8 i (by omega) (by omega)]; exact b6, by rw [e 9 i (by omega) (by omega)]; exact b7, by rw [e 4 i (by omega) (by omega)]; exact b8, by rw [e 6 i (by omega) (by omega)]; exact b9, fun k hk => by rw [e 7 _ (by omega) (by omega)]; exact b10 k hk⟩
