/-! join: the call. -/
theorem op_join {S : Sp} {c m : Hp} (w : wfNow S) (hC : nowC S c) (hM : nowM S m) (x y : Int32) : ∃ r c' m', f11_join x y c = some (r, c') ∧ f12_join x y m = some (r, m') ∧ frC c c' ∧ frM m m' := by
  have hn := w.1
  obtain ⟨m1, em, fr⟩ := m0_ex m
  have hM1 := hM.fr w fr
  obtain ⟨hs, hs64⟩ := sh_all (S 0 0) hn
  simp only [f11_join, f12_join, em, lt, f11_areBoxes, f11_areBoxes_21, isWithin_eq, isIn_eq, hC.1, hM1.1, Option.bind_some, hs]
  by_cases q1 : x < 0
  · simp only [q1, if_true, Option.bind_some]; exact ⟨_, _, _, rfl, rfl, frC.rf, fr⟩
  by_cases q2 : nI (2 ^ S 0 0) ≤ x
  · simp only [q1, q2, if_true, if_false, Option.bind_some]; exact ⟨_, _, _, rfl, rfl, frC.rf, fr⟩
  rcases wi_cases y 0 6 (by omega) (by omega) with h | ⟨j, -, hj, rfl, h⟩
  · simp only [q1, q2, if_false, Option.bind_some, one_ne, show wi y 0 6 = 0 from h, if_true]; exact ⟨_, _, _, rfl, rfl, frC.rf, fr⟩
  have h : wi (nI j) 0 6 = 1 := h
  obtain ⟨bx, hb, rfl⟩ := nI_of q1
  have hb2 : bx < 2 ^ S 0 0 := by rw [nI_leI (by omega) hb] at q2; omega
  have hbx : bx < 64 := by omega
  obtain ⟨c1, ec, l⟩ := listen_ex w hC
  obtain ⟨m2, e2, f2, p58, p59, p60, p61, p62, pf, pj⟩ := plain_ex m1
  have fr2 := fr.tr f2
  have hM2 := hM.fr w fr2
  obtain ⟨c2, e3, r1, r2, fc⟩ := short_ex (c := c1) hbx
  obtain ⟨h1, e4, k1, k2, k3⟩ := membersM (w := nI j) hn hM2.1 hbx hb2
  have e4 : f12_join_40 (nI bx) (nI j) 0 0 m2 = f12_join_78 (nI j) (nI (cnt (tb bx) 6)) h1 := e4
  have FC : frC c c2 := l.fr.tr fc
  have F1 : frM m h1 := fr2.tr ⟨fun q k n => k2 q k (fun e => n (by unfold scrM; omega)), by rw [k3], by rw [k3]⟩
  simp only [q1, q2, if_false, Option.bind_some, one_ne, h, ec, e3, e2, e4]
  have h6 := cnt_le (tb bx) 6
  obtain ⟨z1, z2⟩ := z_all bx hbx
  have hin := hi_all (S 0 0) hn bx hbx hb2
  have mf : ∀ i, i < cnt (tb bx) 6 → memF bx i < S 0 0 ∧ h1.1 32 i = nI (memF bx i) := fun i hi => by
    obtain ⟨m1, m2, m3⟩ := (mem_all bx hbx).1 i (by omega) hi
    refine ⟨?_, ?_⟩
    · rcases Nat.lt_or_ge (memF bx i) (S 0 0) with z | z
      · exact z
      · rw [hin _ m1 z] at m2; cases m2
    · have := k1 _ m1 m2
      rw [m3] at this; exact this
  have big : 0 < cnt (tb bx) 6 → ∃ h2, frM m h2 ∧ f12_join_92 (nI j) (nI (cnt (tb bx) 6)) h1 = f12_join_221 (nI j) (nI (cnt (tb bx) 6)) (nI (gcd' (AE c1) (cnt (tb bx)) (cnt (tb bx) 6) (cnt (tb bx) 6) bx none)) (nI (Vj (AE c1) (cnt (tb bx) 6) bx none)) h2 ∧ ∀ b, b < 6 → tb bx b = true → h2.1 32 (cnt (tb bx) b) = nI b := by
    intro hpos
    obtain ⟨h2, e5, v5, o5, s5⟩ := lappedM (S := S) (mem := memF bx) (w := nI j) (m := h1) w (hM.fr w F1) ((k2 0 61 (by omega)).trans p61) h6 mf
    have h33 : ∀ i k, i < cnt (tb bx) 6 → k < cnt (tb bx) 6 → ∃ o, o ≤ 8 ∧ h2.1 33 (6 * i + k) = nI o ∧ AE c1 (memF bx i) (memF bx k) = 8 - o := fun i k hi hk => by
      refine ⟨_, ?_, v5 i k hi hk, ?_⟩
      · exact Nat.le_trans (ovm_le _ _ _ 7) (by decide)
      · unfold AE
        rw [ovm_c (E' := fun i k => nI (hS S i k)) (fun k hk => l.ear _ k (mf i hi).1 hk) (fun k' hk' => l.ear _ k' (mf k hk).1 hk') 7 (by decide)]
    have ej := codesJ (w := nI j) (h := h2) (AE_le c1) hpos h6 h33
    obtain ⟨b1, b2⟩ := join_best (A := AE c1) (AE_le c1) hbx hpos
    rw [b1, eI_s] at ej
    have ej2 : eL (lenF (AE c1) (memF bx) (cnt (tb bx) 6)) (some (gcd' (AE c1) (cnt (tb bx)) (cnt (tb bx) 6) (cnt (tb bx) 6) bx none)) = nI (Vj (AE c1) (cnt (tb bx) 6) bx none) := by
      show nI (lenF (AE c1) (memF bx) (cnt (tb bx) 6) (gcd' (AE c1) (cnt (tb bx)) (cnt (tb bx) 6) (cnt (tb bx) 6) bx none)) = _
      rw [b2]
    rw [ej2] at ej
    refine ⟨h2, F1.tr ⟨fun q k n => o5 q k (fun e => n (by unfold scrM; omega)), by rw [s5], by rw [s5]⟩, ?_, fun b hb h1 => (o5 _ _ (by decide)).trans (k1 b hb h1)⟩
    simp only [f12_join_92, nI_ne0 hpos (show cnt (tb bx) 6 < 2 ^ 31 by omega), if_false, e5, ej]
  by_cases q6 : j = 6
  · subst q6
    simp only [show ((nI 6 : Int32) = 6) = True from by decide, if_true, f12_join_78, show ((6 : Int32) ≤ nI 6) = True from by decide]
    by_cases q0 : bx = 0
    · have hz : cnt (tb bx) 6 = 0 := z2 q0
      rw [hz, if_pos q0]
      exact ⟨_, _, _, rfl, rfl, FC, F1⟩
    · have hpos : 0 < cnt (tb bx) 6 := by
        rcases Nat.eq_zero_or_pos (cnt (tb bx) 6) with z | z
        · exact absurd (z1 z) q0
        · exact z
      obtain ⟨h2, F2, e7, -⟩ := big hpos
      rw [if_neg q0, e7]
      simp only [f12_join_221, show ((nI 6 : Int32) = 6) = True from by decide, if_true]
      exact ⟨_, _, _, rfl, rfl, FC, F2⟩
  · have n6 : ¬ nI j = (6 : Int32) := by rw [show (6 : Int32) = nI 6 from rfl, nI_eq (by omega) (by omega)]; exact q6
    have g6' : ¬ (6 : Int32) ≤ nI j := g6 (by omega)
    simp only [n6, if_false, r2, f12_join_78, g6']
    by_cases qj : j < cnt (tb bx) 6
    · obtain ⟨h2, F2, e7, k7⟩ := big (by omega)
      obtain ⟨d1, d2, d3⟩ := gcd_dig (A := AE c1) hbx (show 0 < cnt (tb bx) 6 by omega) (cnt (tb bx) 6) bx none j hbx (fun j _ h => h) rfl qj
      have gl := gcd_lt (A := AE c1) hbx (show 0 < cnt (tb bx) 6 by omega) (cnt (tb bx) 6) bx none hbx (fun j _ h => h)
      have v7 := k7 _ d2 d3
      have c7 := r1 j qj
      have pl := pos_lt hbx d2 d3
      rw [e7]
      generalize gcd' (AE c1) (cnt (tb bx)) (cnt (tb bx) 6) (cnt (tb bx) 6) bx none = g at *
      generalize bk (AE c1) (cnt (tb bx) 6) bx none j = b at *
      generalize cnt (tb bx) b = pb at *
      generalize cnt (tb bx) 6 = n at *
      have hN : 0 < n ^ (n - 1 - j) := Nat.pow_pos (by omega)
      have hN2 := pow_le6 h6 (show n - 1 - j ≤ 6 by omega)
      have hN3 := pow_le6 h6 h6
      have ep := pow_eq (n := n) (show n - 1 - j < 2 ^ 31 by omega)
      have e1 : nI n - 1 - nI j = nI (n - 1 - j) := by rw [show (1 : Int32) = nI 1 from rfl, pk_sub (by omega), pk_sub (by omega)]
      have hd : (nI g / nI (n ^ (n - 1 - j)) : Int32) = nI (g / n ^ (n - 1 - j)) := pk_div (by omega) hN (by omega)
      have hle : g / n ^ (n - 1 - j) ≤ g := Nat.div_le_self _ _
      have hr : (nI (g / n ^ (n - 1 - j)) - nI (g / n ^ (n - 1 - j)) / nI n * nI n : Int32) = nI (g / n ^ (n - 1 - j) % n) := pk_rem (by omega) (by omega) (by omega)
      simp only [nI_lt qj (show n < 2 ^ 31 by omega), if_true, f12_join_221, n6, if_false, e1, ep, Option.bind_some, gd, nz_nI hN (show n ^ (n - 1 - j) < 2 ^ 31 by omega), nz_nI (show 0 < n by omega) (show n < 2 ^ 31 by omega), hd, hr, d1, inb_t (show pb < 6 by omega) (by omega), ix_nI (show pb < 2 ^ 31 by omega), v7, nI_ge qj (show n < 2 ^ 31 by omega), inb_t (show j < 6 by omega) (by omega), ix_nI (show j < 2 ^ 31 by omega), c7]
      exact ⟨_, _, _, rfl, rfl, FC, F2⟩
    · simp only [nI_nlt (show cnt (tb bx) 6 ≤ j by omega) (show j < 2 ^ 31 by omega), if_false, nI_le (show cnt (tb bx) 6 ≤ j by omega) (show j < 2 ^ 31 by omega), if_true]
      exact ⟨_, _, _, rfl, rfl, FC, F1⟩
