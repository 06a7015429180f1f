/-! line: the reference; the call. -/
theorem isLine_go {S : Sp} {m : Hp} {x r : Nat} (w : wfNow S) (hM : nowM S m) (h1 : 1 ≤ S 0 0) (hx : x < 2 ^ 31) (hr6 : r ≤ 6) : ∀ r' had k (bf : Option Nat), k + r' = r → had < 64 → (∀ i, bf = some i → i < S 0 0) → lp (fun z : Int32 × Int32 × Int32 => f12_isLine_8_s (nI x) (nI r) z.1 z.2.1 z.2.2 m) (nI had, eI bf, nI k) = some (bI (il (S 5) (S 0 0) r' x had bf))
  | 0, had, k, bf, hk, hh, hb => by
    have hk : k = r := by omega
    subst hk
    refine lp_inr (o := some _) ?_
    simp only [f12_isLine_8_s, nI_le (Nat.le_refl k) (show k < 2 ^ 31 by omega), if_true, il, bI, Option.map_some]
  | r' + 1, had, k, bf, hk, hh, hb => by
    have hn := w.1
    have hN : 0 < S 0 0 ^ r' := Nat.pow_pos (by omega)
    have hN2 := pow_le6 hn (show r' ≤ 6 by omega)
    have e1 : nI r - 1 - nI k = nI r' := by rw [show (1 : Int32) = nI 1 from rfl, pk_sub (by omega), pk_sub (by omega)]; congr 1; omega
    have hd : (nI x / nI (S 0 0 ^ r') : Int32) = nI (x / S 0 0 ^ r') := pk_div hx hN (by omega)
    have hle : x / S 0 0 ^ r' ≤ x := Nat.div_le_self _ _
    have hr : (nI (x / S 0 0 ^ r') - nI (x / S 0 0 ^ r') / nI (S 0 0) * nI (S 0 0) : Int32) = nI (x / S 0 0 ^ r' % S 0 0) := pk_rem (by omega) (by omega) (by omega)
    have hi : x / S 0 0 ^ r' % S 0 0 < S 0 0 := Nat.mod_lt _ (by omega)
    have es : f12_isLine_8_s (nI x) (nI r) (nI had) (eI bf) (nI k) m = (f12_isOf (nI had) (nI (x / S 0 0 ^ r' % S 0 0))).bind fun r6 => if r6 = 0 then (if eI bf < 0 then (f12_isLine_67 (nI x) (nI r) (nI had) (nI k) (nI (x / S 0 0 ^ r' % S 0 0)) m) else (gd (inb (eI bf) 12) <| (f12_isOf (m.1 10 (ix (eI bf))) (nI (x / S 0 0 ^ r' % S 0 0))).bind fun r11 => if r11 = 0 then (some (.inr 0)) else (f12_isLine_67 (nI x) (nI r) (nI had) (nI k) (nI (x / S 0 0 ^ r' % S 0 0)) m))) else (some (.inr 0)) := by
      simp only [f12_isLine_8_s, hM.1, nI_ge (show k < r by omega) (show r < 2 ^ 31 by omega), if_false, e1, pow_eq (n := S 0 0) (show r' < 2 ^ 31 by omega), Option.bind_some, gd, nz_nI hN (show S 0 0 ^ r' < 2 ^ 31 by omega), nz_nI (show 0 < S 0 0 by omega) (show S 0 0 < 2 ^ 31 by omega), if_true, lt, hd, hr]
    have eil : il (S 5) (S 0 0) (r' + 1) x had bf = if tb had (x / S 0 0 ^ r' % S 0 0) = true then false else if kO (S 5) bf (x / S 0 0 ^ r' % S 0 0) = true then il (S 5) (S 0 0) r' x (had + 2 ^ (x / S 0 0 ^ r' % S 0 0)) (some (x / S 0 0 ^ r' % S 0 0)) else false := rfl
    rw [eil]
    generalize x / S 0 0 ^ r' % S 0 0 = i at *
    have bi := bit1 (x := had) (p := i) (by omega) (by omega)
    cases q : tb had i with
    | true =>
      refine lp_inr (o := some _) ?_
      show f12_isLine_8_s (nI x) (nI r) (nI had) (eI bf) (nI k) m = _
      rw [es, isOf_eq, Option.bind_some, if_pos (bi.mpr q), if_neg (by decide), if_pos rfl]; rfl
    | false =>
      obtain ⟨s1, s2, -, -⟩ := bset_all had hh i (by omega) q
      have bi' : ¬ ((nI had >>> (nI i &&& 31)) &&& 1 = 1) := fun z => by rw [bi.mp z] at q; cases q
      have ih := isLine_go w hM h1 hx hr6 r' (had + 2 ^ i) (k + 1) (some i) (by omega) s2 (fun j hj => by have := Option.some.inj hj; omega)
      rw [isOf_eq, Option.bind_some, if_neg bi', if_pos rfl] at es
      rw [if_neg (show ¬ (false = true) from by decide)]
      have e67 : f12_isLine_67 (nI x) (nI r) (nI had) (nI k) (nI i) m = some (.inl (nI (had + 2 ^ i), nI i, nI (k + 1))) := by
        simp only [f12_isLine_67, lt, s1, nI_1]
      cases bf with
      | none =>
        rw [if_pos (show eI none < 0 from by decide), e67] at es
        rw [show kO (S 5) none i = true from rfl, if_pos rfl]
        exact (lp_inl (f := fun z : Int32 × Int32 × Int32 => f12_isLine_8_s (nI x) (nI r) z.1 z.2.1 z.2.2 m) (s := (nI had, eI none, nI k)) (s' := (nI (had + 2 ^ i), nI i, nI (k + 1))) es).trans ih
      | some p =>
        have hp := hb p rfl
        have w5 := (w.2.2.2.2 p hp).2.2.2.2.1
        have bk := bit1 (x := S 5 p) (p := i) (by omega) (by omega)
        rw [eI_s, if_neg (nI_pos (show p < 2 ^ 31 by omega))] at es
        simp only [gd, inb_t (show p < 12 by omega) (by omega), ix_nI (show p < 2 ^ 31 by omega), if_true, (hM.2.2.2.2 p hp).2.1, isOf_eq, Option.bind_some, e67] at es
        show _ = some (bI (if tb (S 5 p) i = true then _ else false))
        cases q2 : tb (S 5 p) i with
        | true =>
          rw [if_pos (bk.mpr q2), if_neg (by decide)] at es
          rw [if_pos rfl]
          exact (lp_inl (f := fun z : Int32 × Int32 × Int32 => f12_isLine_8_s (nI x) (nI r) z.1 z.2.1 z.2.2 m) (s := (nI had, eI (some p), nI k)) (s' := (nI (had + 2 ^ i), nI i, nI (k + 1))) es).trans ih
        | false =>
          have bk' : ¬ ((nI (S 5 p) >>> (nI i &&& 31)) &&& 1 = 1) := fun z => by rw [bk.mp z] at q2; cases q2
          rw [if_neg bk', if_pos rfl] at es
          rw [if_neg (show ¬ (false = true) from by decide)]
          exact lp_inr (f := fun z : Int32 × Int32 × Int32 => f12_isLine_8_s (nI x) (nI r) z.1 z.2.1 z.2.2 m) (s := (nI had, eI (some p), nI k)) (o := some 0) es
theorem isLine_eq {S : Sp} {m : Hp} {x r : Nat} (w : wfNow S) (hM : nowM S m) (h1 : 1 ≤ S 0 0) (hx : x < 2 ^ 31) (hr6 : r ≤ 6) : f12_isLine (nI x) (nI r) m = some (bI (il (S 5) (S 0 0) r x 0 none)) :=
  isLine_go w hM h1 hx hr6 r 0 0 none (by omega) (by omega) (fun i hi => by cases hi)
theorem codes_no {S : Sp} {m : Hp} {r : Nat} {a : Int32} (w : wfNow S) (hM : nowM S m) (h1 : 1 ≤ S 0 0) (hr1 : 1 ≤ r) (hr6 : r ≤ 6) (hno : ∀ x, x < S 0 0 ^ r → il (S 5) (S 0 0) r x 0 none = false) : f12_line_28 a (nI r) 0 m = some (.inl (nI (r - 1))) := by
  have hN := pow_le6 w.1 hr6
  have ep := pow_eq (n := S 0 0) (show r < 2 ^ 31 by omega)
  have em : nI r + (-1) = nI (r - 1) := by rw [show r = r - 1 + 1 by omega]; exact pk_m1 (r - 1)
  unfold f12_line_28
  refine lp_for1 (f := fun z : Int32 => f12_line_28_s a (nI r) z m) (fun x => nI x) (S 0 0 ^ r) (fun x hx => ?_) ?_
  · simp only [f12_line_28_s, hM.1, ep, Option.bind_some, nI_ge hx (show S 0 0 ^ r < 2 ^ 31 by omega), if_false, isLine_eq w hM h1 (show x < 2 ^ 31 by omega) hr6, hno x hx, bI, Bool.false_eq_true, if_true, nI_1]
  · simp only [f12_line_28_s, f12_line_92, hM.1, ep, Option.bind_some, nI_le (Nat.le_refl (S 0 0 ^ r)) (show S 0 0 ^ r < 2 ^ 31 by omega), if_true, em, Option.map_some]
theorem codes_yes {S : Sp} {m : Hp} {r y : Nat} {a : Int32} {o : Int32 × Hp} (w : wfNow S) (hM : nowM S m) (h1 : 1 ≤ S 0 0) (hr6 : r ≤ 6) (hy : y < S 0 0 ^ r) (hno : ∀ x, x < y → il (S 5) (S 0 0) r x 0 none = false) (hyes : il (S 5) (S 0 0) r y 0 none = true) (ho : f12_line_52 a (nI r) (nI y) m = some o) : f12_line_28 a (nI r) 0 m = some (.inr o) := by
  have hN := pow_le6 w.1 hr6
  have ep := pow_eq (n := S 0 0) (show r < 2 ^ 31 by omega)
  unfold f12_line_28
  refine lp_for1 (f := fun z : Int32 => f12_line_28_s a (nI r) z m) (fun x => nI x) y (fun x hx => ?_) ?_
  · simp only [f12_line_28_s, hM.1, ep, Option.bind_some, nI_ge (show x < S 0 0 ^ r by omega) (show S 0 0 ^ r < 2 ^ 31 by omega), if_false, isLine_eq w hM h1 (show x < 2 ^ 31 by omega) hr6, hno x hx, bI, Bool.false_eq_true, if_true, nI_1]
  · simp only [f12_line_28_s, hM.1, ep, Option.bind_some, nI_ge hy (show S 0 0 ^ r < 2 ^ 31 by omega), if_false, isLine_eq w hM h1 (show y < 2 ^ 31 by omega) hr6, hyes, bI, if_true, one_ne, ho, Option.map_some]
theorem op_line {S : Sp} {c m : Hp} (w : wfNow S) (hC : nowC S c) (hM : nowM S m) (x : Int32) : ∃ r c' m', f11_line x c = some (r, c') ∧ f12_line x m = some (r, m') ∧ frC c c' ∧ frM m m' := by
  have hn := w.1
  obtain ⟨m1, em, fr⟩ := m0_ex m
  have hM1 := hM.fr w fr
  simp only [f11_line, f12_line, em, lt, isWithin_eq, isIn_eq, Option.bind_some, hM1.1]
  rcases wi_cases x 0 6 (by omega) (by omega) with h | ⟨j, -, hj, rfl, h⟩
  · simp only [show wi x 0 6 = 0 from h, if_true]; exact ⟨_, _, _, rfl, rfl, frC.rf, fr⟩
  have h : wi (nI j) 0 6 = 1 := h
  obtain ⟨c2, e1, r1, r2, FC⟩ := long_ex w hC
  obtain ⟨n1, n2, n3, n4⟩ := all_N (S 0 0) hn
  simp only [h, one_ne, if_false, e1, Option.bind_some, r2, f12_line_22]
  have j0 : (nI j = (0 : Int32)) ↔ j = 0 := by rw [show (0 : Int32) = nI 0 from rfl]; exact nI_eq (by omega) (by omega)
  by_cases q0 : S 0 0 = 0
  · have hW : Wl (S 5) (S 0 0) (2 ^ S 0 0 - 1) none = 0 := Wl_0 n1 (by rw [n3]; exact q0)
    have er : lp (fun z : Int32 => f12_line_22_s (nI j) z m1) (nI (S 0 0)) = f12_line_98 (nI j) m1 := by
      refine lp_inr ?_
      simp only [f12_line_22_s, q0, show (nI 0 : Int32) = 0 from rfl, Int32.le_refl, if_true]
    rw [hW, er]
    simp only [f12_line_98, j0]
    by_cases q : j = 0
    · simp only [q, if_true]; exact ⟨_, _, _, rfl, rfl, FC, fr⟩
    · simp only [q, if_false, show (nI 0 < nI j) = True from eq_true (nI_lt (by omega) (by omega)), if_true]; exact ⟨_, _, _, rfl, rfl, FC, fr⟩
  · have h1 : 1 ≤ S 0 0 := by omega
    have hin : inN (2 ^ S 0 0 - 1) (S 0 0) := fun i hi hb => by
      rcases Nat.lt_or_ge i (S 0 0) with z | z
      · exact z
      · rw [hi_all (S 0 0) hn _ n1 (by omega) i hi z] at hb; cases hb
    have hrel : relN (S 0 0) (2 ^ S 0 0 - 1) 0 := fun b hb => by rw [n4 b hb, tb_z b (by omega)]; rfl
    have gl := glc_lt (K := S 5) (N := S 0 0) (by omega) (S 0 0) (2 ^ S 0 0 - 1) none n1 hin
    have lg := fun r x => lines_ge (K := S 5) (N := S 0 0) (by omega) hn r (S 0 0) (2 ^ S 0 0 - 1) 0 none x n1 hin n3 (by omega) hrel
    have le := lines_eq (K := S 5) (N := S 0 0) (by omega) hn (S 0 0) (2 ^ S 0 0 - 1) 0 none (glc (S 5) (S 0 0) (S 0 0) (2 ^ S 0 0 - 1) none) n1 hin n3 (by omega) hrel (Nat.mod_eq_of_lt gl)
    have gd' := fun k => glc_dig (K := S 5) (N := S 0 0) (by omega) (S 0 0) (2 ^ S 0 0 - 1) none k n1 hin n3
    have hW1 : 1 ≤ Wl (S 5) (S 0 0) (2 ^ S 0 0 - 1) none ∧ Wl (S 5) (S 0 0) (2 ^ S 0 0 - 1) none ≤ S 0 0 := by
      cases e : amd (Fk (S 5) (S 0 0) (2 ^ S 0 0 - 1)) (chO (S 5) none (2 ^ S 0 0 - 1)) 6 with
      | none =>
        have z : cnt (tb (2 ^ S 0 0 - 1)) 6 = 0 := (amd_none n1).mp e
        omega
      | some b =>
        obtain ⟨a1, a2, a3, -⟩ := (amd_s 6 (Nat.le_refl 6)).2 b e
        have hW : Wl (S 5) (S 0 0) (2 ^ S 0 0 - 1) none = Bl (S 5) (S 0 0) (2 ^ S 0 0 - 1) b := by unfold Wl; rw [e]
        rw [hW]
        exact ⟨Bl_pos _ _ _ _, Bl_le _ _ _ n1 a2 (ch_in a3) n3⟩
    generalize Wl (S 5) (S 0 0) (2 ^ S 0 0 - 1) none = W at *
    generalize glc (S 5) (S 0 0) (S 0 0) (2 ^ S 0 0 - 1) none = y at *
    have hN3 := pow_le6 hn (show W ≤ 6 by omega)
    -- the reference comes to W digits
    have er : ∀ o, f12_line_52 (nI j) (nI W) (nI y) m1 = some o → lp (fun z : Int32 => f12_line_22_s (nI j) z m1) (nI (S 0 0)) = some o := by
      intro o ho
      have hy := codes_yes (a := nI j) w hM1 h1 (show W ≤ 6 by omega) gl (fun x hx => by
        cases q : il (S 5) (S 0 0) W x 0 none with
        | false => rfl
        | true =>
          have := (lg W x q).2 rfl
          rw [Nat.mod_eq_of_lt (Nat.lt_trans hx gl)] at this
          omega) le ho
      have dn : ∀ d, W + d ≤ S 0 0 → lp (fun z : Int32 => f12_line_22_s (nI j) z m1) (nI (W + d)) = some o := by
        intro d
        induction d with
        | zero =>
          intro _
          refine lp_inr (o := some o) ?_
          show f12_line_22_s (nI j) (nI (W + 0)) m1 = _
          rw [show W + 0 = W by omega]
          simp only [f12_line_22_s, nI_nle (show 0 < W by omega) (show W < 2 ^ 31 by omega), if_false, hy, Option.map_some]
        | succ d ih =>
          intro hd
          have hno := codes_no (a := nI j) (r := W + (d + 1)) w hM1 h1 (by omega) (by omega) (fun x _ => by
            cases q : il (S 5) (S 0 0) (W + (d + 1)) x 0 none with
            | false => rfl
            | true => have := (lg (W + (d + 1)) x q).1; omega)
          rw [show W + (d + 1) - 1 = W + d by omega] at hno
          rw [← ih (by omega)]
          refine lp_inl ?_
          simp only [f12_line_22_s, nI_nle (show 0 < W + (d + 1) by omega) (show W + (d + 1) < 2 ^ 31 by omega), if_false, hno]
      have := dn (S 0 0 - W) (by omega)
      rw [show W + (S 0 0 - W) = S 0 0 by omega] at this
      exact this
    by_cases q : j = 0
    · have e5 : f12_line_52 (nI j) (nI W) (nI y) m1 = some (nI W, m1) := by simp only [f12_line_52, j0, q, if_true]; rfl
      rw [er _ e5]
      simp only [j0, q, if_true]
      exact ⟨_, _, _, rfl, rfl, FC, fr⟩
    · by_cases q2 : j ≤ W
      · have dg := gd' (j - 1) (by omega)
        have rc := r1 (j - 1) (by omega)
        have hN : 0 < S 0 0 ^ (W - j) := Nat.pow_pos (by omega)
        have hN2 := pow_le6 hn (show W - j ≤ 6 by omega)
        have ep := pow_eq (n := S 0 0) (show W - j < 2 ^ 31 by omega)
        have hd : (nI y / nI (S 0 0 ^ (W - j)) : Int32) = nI (y / S 0 0 ^ (W - j)) := pk_div (by omega) hN (by omega)
        have hle : y / S 0 0 ^ (W - j) ≤ y := Nat.div_le_self _ _
        have hr : (nI (y / S 0 0 ^ (W - j)) - nI (y / S 0 0 ^ (W - j)) / nI (S 0 0) * nI (S 0 0) : Int32) = nI (y / S 0 0 ^ (W - j) % S 0 0) := pk_rem (by omega) (by omega) (by omega)
        rw [show W - 1 - (j - 1) = W - j by omega] at dg
        have e5 : f12_line_52 (nI j) (nI W) (nI y) m1 = some (nI (lk (S 5) (S 0 0) (2 ^ S 0 0 - 1) none (j - 1)), m1) := by
          simp only [f12_line_52, j0, q, if_false, nI_le q2 (show W < 2 ^ 31 by omega), if_true, pk_sub q2, hM1.1, ep, Option.bind_some, gd, nz_nI hN (show S 0 0 ^ (W - j) < 2 ^ 31 by omega), nz_nI (show 0 < S 0 0 by omega) (show S 0 0 < 2 ^ 31 by omega), hd, hr, dg]
        have ej : (nI j - 1 : Int32) = nI (j - 1) := by rw [show (1 : Int32) = nI 1 from rfl]; exact pk_sub (by omega)
        rw [er _ e5]
        simp only [j0, q, if_false, nI_nlt q2 (show W < 2 ^ 31 by omega), ej, gd, inb_t (show j - 1 < 6 by omega) (by omega), ix_nI (show j - 1 < 2 ^ 31 by omega), if_true, rc]
        exact ⟨_, _, _, rfl, rfl, FC, fr⟩
      · have e5 : f12_line_52 (nI j) (nI W) (nI y) m1 = some (-2, m1) := by
          simp only [f12_line_52, j0, q, if_false, nI_ge (show W < j by omega) (show j < 2 ^ 31 by omega)]
        rw [er _ e5]
        simp only [j0, q, if_false, nI_lt (show W < j by omega) (show j < 2 ^ 31 by omega), if_true]
        exact ⟨_, _, _, rfl, rfl, FC, fr⟩
