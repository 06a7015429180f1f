/-! undo. -/
def popU (S : Sp) : Sp := up2 (up2 (up2 (up2 S 0 12 (S 0 12 - 1)) 2 (S 20 (S 0 12 - 1)) (S 21 (S 0 12 - 1))) 4 (S 20 (S 0 12 - 1)) (S 22 (S 0 12 - 1))) 6 (S 20 (S 0 12 - 1)) (S 23 (S 0 12 - 1))
theorem pop_o {S : Sp} {a j : Nat} (h : ¬ ((a = 0 ∧ j = 12) ∨ ((a = 2 ∨ a = 4 ∨ a = 6) ∧ j = S 20 (S 0 12 - 1)))) : popU S a j = S a j := by
  unfold popU
  rw [up2_of (by omega), up2_of (by omega), up2_of (by omega), up2_of (by omega)]
theorem pop_n {S : Sp} : popU S 0 12 = S 0 12 - 1 := by
  unfold popU
  rw [up2_of (by omega), up2_of (by omega), up2_of (by omega), up2_s]
theorem pop_v {S : Sp} {a b : Nat} (ha : a = 2 ∨ a = 4 ∨ a = 6) : popU S a b = if S 20 (S 0 12 - 1) = b then S (cp a) (S 0 12 - 1) else S a b := by
  by_cases q : S 20 (S 0 12 - 1) = b
  · rw [if_pos q]
    subst q
    rcases ha with rfl | rfl | rfl
    · unfold popU; rw [up2_of (by omega), up2_of (by omega), up2_s]; rfl
    · unfold popU; rw [up2_of (by omega), up2_s]; rfl
    · unfold popU; rw [up2_s]; rfl
  · rw [if_neg q]
    exact pop_o (by omega)
theorem uv_pop {S : Sp} {a b : Nat} (ha : a = 2 ∨ a = 4 ∨ a = 6) : ∀ (k j : Nat), j + k = S 0 12 - 1 → uv S a b (k + 1) j = uv (popU S) a b k j
  | 0, j, h => by
    have hj : j = S 0 12 - 1 := by omega
    subst hj
    show (if S 20 (S 0 12 - 1) = b then S (cp a) (S 0 12 - 1) else S a b) = popU S a b
    rw [pop_v ha]
  | k + 1, j, h => by
    have := @cp_in a
    have ih := uv_pop (S := S) (b := b) ha k (j + 1) (by omega)
    show (if S 20 j = b then S (cp a) j else uv S a b (k + 1) (j + 1)) = (if popU S 20 j = b then popU S (cp a) j else uv (popU S) a b k (j + 1))
    rw [pop_o (by omega), pop_o (by omega), ih]
theorem op_undo {S : Sp} {c m : Hp} (w : wfNow S) (u : wfUnd S) (hC : nowC S c) (hM : nowM S m) (uC : undC S c) (uM : undM S m) : ∃ S' r c' m', f11_undo c = some (r, c') ∧ f12_undo m = some (r, m') ∧ UOk S S' c c' m m' := by
  have hn := w.1
  have h20 := u.1
  obtain ⟨m0, em, o, o2⟩ := m0_ex2 m
  have hM0 := hM.o w o o2
  have uM0 := uM.o o
  have none := UOk.none w u hC hM uC uM o o2
  by_cases hz : S 0 12 = 0
  · have z : nI (S 0 12) = (0 : Int32) := by rw [hz]; rfl
    simp only [f11_undo, f12_undo, em, lt, uC.1, uM0.1, z, if_true]
    exact ⟨S, _, _, _, rfl, rfl, none⟩
  · have z : ¬ nI (S 0 12) = (0 : Int32) := nI_ne0 (by omega) (by omega)
    have zle : ¬ nI (S 0 12) ≤ (0 : Int32) := by rw [lit]; exact nI_ge (by omega) (by omega)
    obtain ⟨n, hnn⟩ : ∃ n, S 0 12 = n + 1 := ⟨S 0 12 - 1, by omega⟩
    have hp : (nI (S 0 12) - 1 : Int32) = nI n := by rw [hnn]; exact nI_pred n
    have hn1 : S 0 12 - 1 = n := by omega
    obtain ⟨u20, u21, u22, u23⟩ := u.2 n (by omega)
    obtain ⟨c35, c36, c37, c38⟩ := uC.2 n (by omega)
    have hb6 : S 20 n < 6 := by omega
    -- the class
    have i20 := inb_t (show n < 20 by omega) (show 20 < 2 ^ 31 by omega)
    have ixn := ix_nI (show n < 2 ^ 31 by omega)
    have a1 : (wI c 34 4 (nI n)).1 34 4 = nI n := wI_s
    have a35 : (wI c 34 4 (nI n)).1 35 n = nI (S 20 n) := by rw [wI_o (by omega)]; exact c35
    have a36 : (wI c 34 4 (nI n)).1 36 n = nI (S 21 n) := by rw [wI_o (by omega)]; exact c36
    have b1 : (wI (wI c 34 4 (nI n)) (8 + 2 * S 20 n) 5 (nI (S 21 n))).1 34 4 = nI n := by rw [wI_o (by omega)]; exact a1
    have b37 : (wI (wI c 34 4 (nI n)) (8 + 2 * S 20 n) 5 (nI (S 21 n))).1 37 n = nI (S 22 n) := by rw [wI_o (by omega), wI_o (by omega)]; exact c37
    have d1 : (wI (wI (wI c 34 4 (nI n)) (8 + 2 * S 20 n) 5 (nI (S 21 n))) (8 + 2 * S 20 n) 9 (nI (S 22 n))).1 34 4 = nI n := by rw [wI_o (by omega)]; exact b1
    have d38 : (wI (wI (wI c 34 4 (nI n)) (8 + 2 * S 20 n) 5 (nI (S 21 n))) (8 + 2 * S 20 n) 9 (nI (S 22 n))).1 38 n = nI (S 23 n) := by rw [wI_o (by omega), wI_o (by omega), wI_o (by omega)]; exact c38
    have et : f1_takeLatest 6 c = some (wI (wI (wI (wI c 34 4 (nI n)) (8 + 2 * S 20 n) 5 (nI (S 21 n))) (8 + 2 * S 20 n) 9 (nI (S 22 n))) (8 + 2 * S 20 n) 10 (nI (S 23 n))) := by
      simp only [f1_takeLatest, uC.1, zle, if_false, hp, lt]
      simp only [a1, i20, ixn, gd, if_true, a35, a36, inb_t hb6 (show 6 < 2 ^ 31 by omega), ix_nI (show S 20 n < 2 ^ 31 by omega), show 6 + 1 + 1 + 2 * S 20 n = 8 + 2 * S 20 n by omega]
      simp only [b1, b37, i20, ixn, if_true]
      simp only [d1, d38, i20, ixn, bz_nI u23, if_true]
    have r4 : (wI (wI (wI (wI c 34 4 (nI n)) (8 + 2 * S 20 n) 5 (nI (S 21 n))) (8 + 2 * S 20 n) 9 (nI (S 22 n))) (8 + 2 * S 20 n) 10 (nI (S 23 n))).1 34 4 = nI n := by rw [wI_o (by omega)]; exact d1
    -- the reference
    have g69 : (wI m0 0 69 (nI n)).1 0 69 = nI n := wI_s
    obtain ⟨m1, e1, mo, m2, mb⟩ := take_ex (h := wI m0 0 69 (nI n)) (p := 36) (ln := 360) (i := 18 * n) rfl (by omega) (by omega) (by omega)
    have mo' : ∀ q k, ¬ ((q = 24 ∨ q = 28 ∨ q = 29) ∧ k < 6) → ¬ (q = 0 ∧ k = 69) → m1.1 q k = m0.1 q k := fun q k h1 h2 => (mo q k h1).trans (wI_o h2)
    have k69 : m1.1 0 69 = nI n := (mo _ _ (by omega)).trans g69
    simp only [f11_undo, f12_undo, em, lt, uC.1, uM0.1, z, if_false, et, Option.bind_some, r4, hp]
    simp only [g69, show (18 * nI n : Int32) = nI (18 * n) from by rw [lit, pk_mul], e1, Option.bind_some, k69]
    have e0 : ∀ k, k = 0 ∨ 4 ≤ k ∧ k ≤ 6 → popU S 0 k = S 0 k := fun k hk => pop_o (by omega)
    have nowP : nowC (popU S) (wI (wI (wI (wI c 34 4 (nI n)) (8 + 2 * S 20 n) 5 (nI (S 21 n))) (8 + 2 * S 20 n) 9 (nI (S 22 n))) (8 + 2 * S 20 n) 10 (nI (S 23 n))) := by
      have s0 : nowC (up2 S 0 12 (S 0 12 - 1)) (wI c 34 4 (nI n)) := hC.cg (fun k hk => up2_of (by omega)) (fun a k _ _ => up2_of (by omega)) hn (fun q k hq => wI_o (by omega))
      have q0 : up2 S 0 12 (S 0 12 - 1) 0 0 = S 0 0 := up2_of (by omega)
      have s1 := s0.set (a := 2) (b := S 20 n) (v := S 21 n) (by omega) (by rw [q0]; exact hn) (by rw [q0]; exact u20)
      have q1 : up2 (up2 S 0 12 (S 0 12 - 1)) 2 (S 20 n) (S 21 n) 0 0 = S 0 0 := by rw [up2_of (by omega)]; exact q0
      have s2 := s1.set (a := 4) (b := S 20 n) (v := S 22 n) (by omega) (by rw [q1]; exact hn) (by rw [q1]; exact u20)
      have q2 : up2 (up2 (up2 S 0 12 (S 0 12 - 1)) 2 (S 20 n) (S 21 n)) 4 (S 20 n) (S 22 n) 0 0 = S 0 0 := by rw [up2_of (by omega)]; exact q1
      have s3 := s2.set (a := 6) (b := S 20 n) (v := S 23 n) (by omega) (by rw [q2]; exact hn) (by rw [q2]; exact u20)
      unfold popU
      rw [hn1] at s3 ⊢
      exact s3
    have wP : wfNow (popU S) := by
      unfold popU
      rw [hn1]
      have w0 : wfNow (up2 S 0 12 n) := w.cg (fun k hk => up2_of (by omega)) (fun a k _ _ => up2_of (by omega))
      exact ((w0.set (Or.inl ⟨rfl, u21⟩)).set (Or.inr (Or.inl ⟨rfl, u22⟩))).set (Or.inr (Or.inr ⟨rfl, u23⟩))
    refine ⟨popU S, nI n, _, m1, rfl, rfl, wP, ⟨by rw [pop_n]; omega, fun j hj => ?_⟩, nowP, ⟨?_, ?_, ?_, ?_, fun b hb => ?_⟩, ⟨by rw [r4, pop_n, hn1], fun j hj => ?_⟩, ⟨by rw [k69, pop_n, hn1], fun j b hj hb => ?_⟩, fun a j h => ?_, fun q k h => ?_, rfl, fun q k h => ?_, m2.trans o2⟩
    · rw [pop_n] at hj
      rw [e0 0 (by omega), pop_o (by omega), pop_o (by omega), pop_o (by omega), pop_o (by omega)]
      exact u.2 j (by omega)
    · rw [e0 0 (by omega), mo' _ _ (by omega) (by omega)]; exact hM0.1
    · rw [e0 4 (by omega), mo' _ _ (by omega) (by omega)]; exact hM0.2.1
    · rw [e0 5 (by omega), m2]; exact hM0.2.2.1
    · rw [e0 6 (by omega), mo' _ _ (by omega) (by omega)]; exact hM0.2.2.2.1
    · rw [e0 0 (by omega)] at hb
      obtain ⟨b1, b2, b3, b4, b5, b6, b7, b8, b9⟩ := hM0.2.2.2.2 b hb
      obtain ⟨t1, t2, t3⟩ := mb b (by omega)
      obtain ⟨r1, r2, r3⟩ := uM0.2 n b (by omega) hb
      have eu : ∀ a, a = 2 ∨ a = 4 ∨ a = 6 → uv S a b (S 0 12 - n) n = popU S a b := fun a ha => by
        rw [show S 0 12 - n = 0 + 1 by omega]
        exact uv_pop ha 0 n (by omega)
      rw [eu 2 (by omega)] at r1
      rw [eu 6 (by omega)] at r2
      rw [eu 4 (by omega)] at r3
      have w6 := (wP.2.2.2.2 b (by rw [e0 0 (by omega)]; exact hb)).2.2.2.2.2.1
      refine ⟨by rw [pop_o (by omega), mo' _ _ (by omega) (by omega)]; exact b1, by rw [pop_o (by omega), mo' _ _ (by omega) (by omega)]; exact b2, ?_, by rw [pop_o (by omega), mo' _ _ (by omega) (by omega)]; exact b4, by rw [pop_o (by omega), mo' _ _ (by omega) (by omega)]; exact b5, by rw [pop_o (by omega), mo' _ _ (by omega) (by omega)]; exact b6, ?_, ?_, fun k hk => by rw [pop_o (by omega), mo' _ _ (by omega) (by omega)]; exact b9 k hk⟩
      · rw [t1, wI_o (by omega)]; exact r1
      · rw [t3, wI_o (by omega)]; exact r3
      · rw [t2, wI_o (by omega), r2]
        have : popU S 6 b = 0 ∨ popU S 6 b = 1 := by omega
        rcases this with z | z <;> rw [z] <;> decide
    · rw [pop_n] at hj
      rw [pop_o (by omega), pop_o (by omega), pop_o (by omega), pop_o (by omega), wI_o (by omega), wI_o (by omega), wI_o (by omega), wI_o (by omega), wI_o (by omega), wI_o (by omega), wI_o (by omega), wI_o (by omega), wI_o (by omega), wI_o (by omega), wI_o (by omega), wI_o (by omega), wI_o (by omega), wI_o (by omega), wI_o (by omega), wI_o (by omega)]
      exact uC.2 j (by omega)
    · rw [pop_n] at hj
      rw [e0 0 (by omega)] at hb
      rw [pop_n, mo' _ _ (by omega) (by omega), mo' _ _ (by omega) (by omega), mo' _ _ (by omega) (by omega)]
      have r := uM0.2 j b (by omega) hb
      rw [show S 0 12 - j = (S 0 12 - 1 - j) + 1 by omega, uv_pop (by omega) _ _ (by omega), uv_pop (by omega) _ _ (by omega), uv_pop (by omega) _ _ (by omega)] at r
      exact r
    · exact pop_o (by omega)
    · unfold tU_C at h
      rw [wI_o (by omega), wI_o (by omega), wI_o (by omega), wI_o (by omega)]
    · unfold tU_M at h
      rw [mo' _ _ (by omega) (by omega)]; exact o q k (by omega)
