/-! The change of a box by call on both sides. -/
theorem uvS_ok {S : Sp} (w : wfNow S) (u : wfUnd S) {b : Nat} (hb : b < S 0 0) : ∀ (n j : Nat), j + n = S 0 12 → uv S 6 b n j ≤ 1
  | 0, j, h => (w.2.2.2.2 b hb).2.2.2.2.2.1
  | n + 1, j, h => by
    show (if S 20 j = b then S 23 j else uv S 6 b n (j + 1)) ≤ 1
    split
    · exact (u.2 j (by omega)).2.2.2
    · exact uvS_ok w u hb n (j + 1) (by omega)
/-- wherever the boxes stand as in S, they stand so in S', too, if S' says the same of them -/
theorem nowC.cg {S S' : Sp} {c c' : Hp} (h : nowC S c) (e0 : ∀ k, k = 0 ∨ 4 ≤ k ∧ k ≤ 6 → S' 0 k = S 0 k) (e : ∀ a k, 1 ≤ a → a ≤ 9 → S' a k = S a k) (hn : S 0 0 ≤ 6) (f : ∀ q k, q = 6 ∨ 8 ≤ q ∧ q ≤ 19 → c'.1 q k = c.1 q k) : nowC S' c' := by
  obtain ⟨h1, h2, h3, h4, h5⟩ := h
  refine ⟨by rw [e0 0 (by omega), f 6 1 (by omega)]; exact h1, by rw [e0 4 (by omega), f 6 2 (by omega)]; exact h2, by rw [e0 5 (by omega), f 6 3 (by omega)]; exact h3, by rw [e0 6 (by omega), f 6 4 (by omega)]; exact h4, fun i hi => ?_⟩
  rw [e0 0 (by omega)] at hi
  have hb : boxC S i (8 + 2 * i) c' := (h5 i hi).fr (fun k => f _ _ (by omega)) (fun k => f _ _ (by omega))
  have epn : pinN S' i = pinN S i := by
    unfold pinN
    exact cnt_congr (fun k _ => by rw [e 7 _ (by omega) (by omega)])
  obtain ⟨b1, b2, b3, b4, b5, b6, b7, b8, b9, b10⟩ := hb
  exact ⟨by rw [e 1 i (by omega) (by omega)]; exact b1, by rw [epn]; exact b2, by rw [e 5 i (by omega) (by omega)]; exact b3, by rw [e 2 i (by omega) (by omega)]; exact b4, by rw [e 3 i (by omega) (by omega)]; exact b5, by rw [e 8 i (by omega) (by omega)]; exact b6, by rw [e 9 i (by omega) (by omega)]; exact b7, by rw [e 4 i (by omega) (by omega)]; exact b8, by rw [e 6 i (by omega) (by omega)]; exact b9, fun k hk => by rw [e 7 _ (by omega) (by omega)]; exact b10 k hk⟩
theorem nowM.cg {S S' : Sp} {m m' : Hp} (h : nowM S m) (e0 : ∀ k, k = 0 ∨ 4 ≤ k ∧ k ≤ 6 → S' 0 k = S 0 k) (e : ∀ a k, 1 ≤ a → a ≤ 9 → S' a k = S a k) (hn : S 0 0 ≤ 6) (f : ∀ q k, (q = 0 ∧ k = 12) ∨ (q = 7 ∨ q = 10 ∨ 24 ≤ q ∧ q ≤ 29) ∧ k < 6 ∨ q = 8 ∧ k < 48 ∨ (q = 30 ∨ q = 31) ∧ k = 0 → m'.1 q k = m.1 q k) (fj : m'.2.1 0 57 = m.2.1 0 57) : nowM S' m' := by
  obtain ⟨h1, h2, h3, h4, h5⟩ := h
  refine ⟨by rw [e0 0 (by omega), f 0 12 (by omega)]; exact h1, by rw [e0 4 (by omega), f 30 0 (by omega)]; exact h2, by rw [e0 5 (by omega), fj]; exact h3, by rw [e0 6 (by omega), f 31 0 (by omega)]; exact h4, fun i hi => ?_⟩
  rw [e0 0 (by omega)] at hi
  obtain ⟨b1, b2, b3, b4, b5, b6, b7, b8, b9⟩ := h5 i hi
  exact ⟨by rw [e 1 i (by omega) (by omega), f 7 i (by omega)]; exact b1, by rw [e 5 i (by omega) (by omega), f 10 i (by omega)]; exact b2, by rw [e 2 i (by omega) (by omega), f 24 i (by omega)]; exact b3, by rw [e 3 i (by omega) (by omega), f 25 i (by omega)]; exact b4, by rw [e 8 i (by omega) (by omega), f 26 i (by omega)]; exact b5, by rw [e 9 i (by omega) (by omega), f 27 i (by omega)]; exact b6, by rw [e 4 i (by omega) (by omega), f 29 i (by omega)]; exact b7, by rw [e 6 i (by omega) (by omega), f 28 i (by omega)]; exact b8, fun k hk => by rw [e 7 _ (by omega) (by omega), f 8 _ (by omega)]; exact b9 k hk⟩
theorem wfNow.cg {S S' : Sp} (w : wfNow S) (e0 : ∀ k, k = 0 ∨ 4 ≤ k ∧ k ≤ 6 → S' 0 k = S 0 k) (e : ∀ a k, 1 ≤ a → a ≤ 9 → S' a k = S a k) : wfNow S' := by
  obtain ⟨w1, w2, w3, w4, w5⟩ := w
  refine ⟨by rw [e0 0 (by omega)]; exact w1, by rw [e0 4 (by omega)]; exact w2, by rw [e0 5 (by omega)]; exact w3, by rw [e0 6 (by omega), e0 4 (by omega)]; exact w4, fun i hi => ?_⟩
  rw [e0 0 (by omega)] at hi
  rw [e0 4 (by omega), e 1 i (by omega) (by omega), e 2 i (by omega) (by omega), e 3 i (by omega) (by omega), e 4 i (by omega) (by omega), e 5 i (by omega) (by omega), e 6 i (by omega) (by omega), e 8 i (by omega) (by omega), e 9 i (by omega) (by omega)]
  obtain ⟨x1, x2, x3, x4, x5, x6, x7, x8, x9⟩ := w5 i hi
  exact ⟨x1, x2, x3, x4, x5, x6, x7, x8, fun k hk => by rw [e 7 _ (by omega) (by omega)]; exact x9 k hk⟩
/-- what a change may touch: but for the box itself -/
theorem change_ex {S : Sp} {c m : Hp} {b : Nat} (w : wfNow S) (u : wfUnd S) (hC : nowC S c) (hM : nowM S m) (uC : undC S c) (uM : undM S m) (hb : b < S 0 0) : ∃ c1 m1, f1_note (nI b) (8 + 2 * b) c = some c1 ∧ f12_remember m = some m1 ∧ (∀ q k, ¬ (34 ≤ q ∧ q ≤ 38) → c1.1 q k = c.1 q k) ∧ c1.2 = c.2 ∧ (∀ q k, ¬ (q = 36 ∨ q = 0 ∧ k = 69) → m1.1 q k = m.1 q k) ∧ m1.2 = m.2 ∧ ∀ a v, okV a v → (wfUnd (up2 (pshU S b) a b v) ∧ undC (up2 (pshU S b) a b v) (wI c1 (8 + 2 * b) (kCf a) (nI v)) ∧ undM (up2 (pshU S b) a b v) (wI m1 (qMf a) b (nI v)) ∧ wfNow (up2 (pshU S b) a b v) ∧ nowC (up2 (pshU S b) a b v) (wI c1 (8 + 2 * b) (kCf a) (nI v)) ∧ nowM (up2 (pshU S b) a b v) (wI m1 (qMf a) b (nI v))) := by
  have hn := w.1
  have hd := dd_le u.1
  have wb := w.2.2.2.2 b hb
  have bC := hC.2.2.2.2 b hb
  obtain ⟨c1, ec, c4, co, c2, cj, c5, c6, c7, c8⟩ := note_ex (p := 8 + 2 * b) (nI b) uC.1 u.1 (by omega) (by rw [bC.2.2.2.2.2.2.2.2.1]; exact bz_nI wb.2.2.2.2.2.1) (fun j hj => by rw [(uC.2 j hj).2.2.2]; exact bz_nI (u.2 j hj).2.2.2)
  obtain ⟨m1, em, m4, mo, m2, mj, mr⟩ := rem_ex uM.1 u.1
  refine ⟨c1, m1, ec, em, co, c2, mo, m2, fun a v hv => ?_⟩
  have ha : a = 2 ∨ a = 4 ∨ a = 6 := by unfold okV at hv; omega
  have hq : qMf a = 24 ∨ qMf a = 29 ∨ qMf a = 28 := by rcases ha with rfl | rfl | rfl <;> simp [qMf]
  have e0 : ∀ k, k = 0 ∨ 4 ≤ k ∧ k ≤ 6 → pshU S b 0 k = S 0 k := fun k hk => psh_o (by omega) (by omega)
  have e1 : ∀ x k, 1 ≤ x → x ≤ 9 → pshU S b x k = S x k := fun x k h1 h2 => psh_o (by omega) (by omega)
  have n0 : up2 (pshU S b) a b v 0 0 = S 0 0 := by rw [up2_of (by omega)]; exact e0 0 (by omega)
  have n12 : up2 (pshU S b) a b v 0 12 = S 0 12 - dd (S 0 12) + 1 := by rw [up2_of (by omega)]; exact psh_n
  have el : ∀ x j, 20 ≤ x → x ≤ 23 → j < S 0 12 - dd (S 0 12) → up2 (pshU S b) a b v x j = S x (j + dd (S 0 12)) := fun x j h1 h2 h3 => by rw [up2_of (by omega)]; exact psh_lt h1 h2 h3
  have l20 : up2 (pshU S b) a b v 20 (S 0 12 - dd (S 0 12)) = b := by rw [up2_of (by omega)]; exact psh_20
  have l21 : up2 (pshU S b) a b v 21 (S 0 12 - dd (S 0 12)) = S 2 b := by rw [up2_of (by omega)]; exact psh_cp (a := 2) (by omega)
  have l22 : up2 (pshU S b) a b v 22 (S 0 12 - dd (S 0 12)) = S 4 b := by rw [up2_of (by omega)]; exact psh_cp (a := 4) (by omega)
  have l23 : up2 (pshU S b) a b v 23 (S 0 12 - dd (S 0 12)) = S 6 b := by rw [up2_of (by omega)]; exact psh_cp (a := 6) (by omega)
  have wp : wfNow (pshU S b) := w.cg e0 e1
  refine ⟨⟨by rw [n12]; omega, fun j hj => ?_⟩, ⟨?_, fun j hj => ?_⟩, ⟨?_, fun j b' hj hb' => ?_⟩, wp.set hv, (hC.cg e0 e1 hn (fun q k h => co q k (by omega))).set ha (by rw [e0 0 (by omega)]; exact hn) (by rw [e0 0 (by omega)]; exact hb), (hM.cg e0 e1 hn (fun q k h => mo q k (by omega)) (by rw [m2])).set ha⟩
  · rw [n12] at hj
    rw [n0]
    by_cases q : j = S 0 12 - dd (S 0 12)
    · subst q
      rw [l20, l21, l22, l23]
      exact ⟨hb, wb.2.1, wb.2.2.2.1, wb.2.2.2.2.2.1⟩
    · rw [el 20 j (by omega) (by omega) (by omega), el 21 j (by omega) (by omega) (by omega), el 22 j (by omega) (by omega) (by omega), el 23 j (by omega) (by omega) (by omega)]
      exact u.2 _ (by omega)
  · rw [n12, wI_o (by omega)]; exact c4
  · rw [n12] at hj
    rw [wI_o (by omega), wI_o (by omega), wI_o (by omega), wI_o (by omega)]
    by_cases q : j = S 0 12 - dd (S 0 12)
    · subst q
      rw [l20, l21, l22, l23, c5, c6, c7, c8]
      exact ⟨rfl, bC.2.2.2.1, bC.2.2.2.2.2.2.2.1, bC.2.2.2.2.2.2.2.2.1⟩
    · rw [el 20 j (by omega) (by omega) (by omega), el 21 j (by omega) (by omega) (by omega), el 22 j (by omega) (by omega) (by omega), el 23 j (by omega) (by omega) (by omega), cj 35 j (by omega) (by omega) (by omega), cj 36 j (by omega) (by omega) (by omega), cj 37 j (by omega) (by omega) (by omega), cj 38 j (by omega) (by omega) (by omega)]
      exact uC.2 _ (by omega)
  · rw [n12, wI_o (by omega)]; exact m4
  · rw [n12] at hj
    rw [n0] at hb'
    rw [n12, wI_o (by omega), wI_o (by omega), wI_o (by omega)]
    have hk : S 0 12 - dd (S 0 12) + 1 - j = (S 0 12 - dd (S 0 12) - j) + 1 := by omega
    have t20 : pshU S b 20 (j + (S 0 12 - dd (S 0 12) - j)) = b := by rw [show j + (S 0 12 - dd (S 0 12) - j) = S 0 12 - dd (S 0 12) by omega]; exact psh_20
    rw [hk, uv_chg ha _ _ t20, uv_chg ha _ _ t20, uv_chg ha _ _ t20, uv_psh (by omega) _ _ (by omega), uv_psh (by omega) _ _ (by omega), uv_psh (by omega) _ _ (by omega)]
    by_cases q : j = S 0 12 - dd (S 0 12)
    · subst q
      rw [Nat.sub_self]
      obtain ⟨r1, r2, r3⟩ := mr b' (by omega)
      have bM := hM.2.2.2.2 b' hb'
      have w6 := (w.2.2.2.2 b' hb').2.2.2.2.2.1
      refine ⟨r1.trans bM.2.2.1, ?_, r3.trans bM.2.2.2.2.2.2.1⟩
      rw [r2, bM.2.2.2.2.2.2.2.1]
      show _ = nI (S 6 b')
      have : S 6 b' = 0 ∨ S 6 b' = 1 := by omega
      rcases this with z | z <;> rw [z] <;> decide
    · have hjl : j < S 0 12 - dd (S 0 12) := by omega
      have r := uM.2 (j + dd (S 0 12)) b' (by omega) hb'
      rw [show S 0 12 - (j + dd (S 0 12)) = S 0 12 - dd (S 0 12) - j by omega] at r
      refine ⟨?_, ?_, ?_⟩
      · rw [mj j b' hjl (by omega)]; exact r.1
      · rw [show 18 * j + 6 + b' = 18 * j + (6 + b') by omega, mj j (6 + b') hjl (by omega), show 18 * (j + dd (S 0 12)) + (6 + b') = 18 * (j + dd (S 0 12)) + 6 + b' by omega]; exact r.2.1
      · rw [show 18 * j + 12 + b' = 18 * j + (12 + b') by omega, mj j (12 + b') hjl (by omega), show 18 * (j + dd (S 0 12)) + (12 + b') = 18 * (j + dd (S 0 12)) + 12 + b' by omega]; exact r.2.2
