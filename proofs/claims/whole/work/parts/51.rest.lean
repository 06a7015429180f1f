/-! rests, rest: two who bid. -/
def kw (l b o : Int32) : Int32 := if b ≤ o then (if b = o then l / 2 - b else 0) else l - b
theorem hasBy_eq (l b o : Int32) : f12_hasBy l b o = some (kw l b o) := by
  unfold f12_hasBy kw
  split
  · split <;> rfl
  · rfl
theorem keyIs_eq (l b o : Int32) : f11_keyIsWorth l b o = some (kw l b o) := by
  unfold f11_keyIsWorth kw f11_keyIsWorth_19
  by_cases h1 : o ≤ b
  · rw [if_pos h1]
    by_cases h2 : b ≤ o
    · have e : b = o := Int32.le_antisymm h2 h1
      rw [if_pos h2, if_pos h2, if_pos e]
    · rw [if_neg h2, if_neg h2]
  · have h2 : b ≤ o := Int32.le_of_lt (Int32.not_le.mp h1)
    rw [if_neg h1, if_pos h2, if_neg (fun e => h1 (by rw [e]; exact Int32.le_refl o))]
def alB (p : Nat → Bool) : Nat → Bool
  | 0 => true
  | n + 1 => alB p n && p n
theorem alB_f {p : Nat → Bool} {w : Nat} (h : p w = false) : ∀ {n : Nat}, w < n → alB p n = false
  | 0, hn => by omega
  | n + 1, hn => by
    unfold alB
    by_cases e : w = n
    · subst e; rw [h, Bool.and_false]
    · rw [alB_f h (show w < n by omega), Bool.false_and]
def okB (l a o w : Int32) : Bool := !decide (kw l a o < kw l w o) && !decide (kw l o a < kw l w a)
def rsB (l a o : Int32) : Bool := alB (fun w => okB l a o (nI w)) 5
theorem isRest_eq (l a o : Int32) : f11_isRest l a o = some (bI (rsB l a o)) := by
  unfold f11_isRest f11_isRest_2 rsB
  have key : ∀ (n w : Nat), w + n = 5 → alB (fun w => okB l a o (nI w)) w = true → lp (fun z : Int32 => f11_isRest_2_s l a o z) (nI w) = some (bI (alB (fun w => okB l a o (nI w)) 5)) := by
    intro n
    induction n with
    | zero =>
      intro w hw ht
      have hw : w = 5 := by omega
      subst hw
      rw [ht]
      refine lp_inr (o := some _) ?_
      simp only [f11_isRest_2_s, show ((4 : Int32) < nI 5) = True from by decide, if_true, Option.map_some, bI]
    | succ n ih =>
      intro w hw ht
      have z : ¬ (4 : Int32) < nI w := by rw [lit]; exact nI_nlt (by omega) (by omega)
      cases q : okB l a o (nI w) with
      | true =>
        have ht2 : alB (fun w => okB l a o (nI w)) (w + 1) = true := by
          show (alB (fun w => okB l a o (nI w)) w && okB l a o (nI w)) = true
          rw [ht, q]; rfl
        refine (lp_inl (s' := nI (w + 1)) ?_).trans (ih (w + 1) (by omega) ht2)
        unfold okB at q
        rw [Bool.and_eq_true, Bool.not_eq_true', Bool.not_eq_true', decide_eq_false_iff_not, decide_eq_false_iff_not] at q
        simp only [f11_isRest_2_s, z, if_false, keyIs_eq, Option.bind_some, q.1, Int32.not_lt.mp q.2, if_true, nI_1]
      | false =>
        rw [alB_f (w := w) q (show w < 5 by omega)]
        refine lp_inr (o := some _) ?_
        unfold okB at q
        simp only [f11_isRest_2_s, z, if_false, keyIs_eq, Option.bind_some, bI, Option.map_some, Bool.false_eq_true]
        by_cases q1 : kw l a o < kw l (nI w) o
        · rw [if_pos q1]
        · rw [if_neg q1]
          by_cases q2 : kw l o a < kw l (nI w) a
          · rw [if_neg (by rw [Int32.not_le]; exact q2)]
          · rw [decide_eq_false q1, decide_eq_false q2] at q
            exact absurd q (by decide)
  exact key 5 0 (by omega) rfl
theorem restAt_in (l k n g a o : Int32) : f12_restAt_26 l k n g a o 1 0 = f12_restAt_88 l k n g a o (bI (rsB l a o)) := by
  unfold f12_restAt_26 rsB
  refine lp_for (f := fun z : Int32 × Int32 => f12_restAt_26_s l k n g a o z.1 z.2) (fun w => (bI (alB (fun w => okB l a o (nI w)) w), nI w)) 5 (fun w hw => ?_) ?_
  · have z : ¬ (5 : Int32) ≤ nI w := by rw [lit]; exact nI_ge (by omega) (by omega)
    simp only [f12_restAt_26_s, f12_restAt_79, f12_restAt_80, z, if_false, hasBy_eq, Option.bind_some, nI_1, alB]
    cases q0 : alB (fun w => okB l a o (nI w)) w with
    | false => simp only [bI, Bool.false_eq_true, if_false, if_true, Bool.false_and]
    | true =>
      unfold okB
      by_cases q1 : kw l a o < kw l (nI w) o
      · simp only [bI, if_true, one_ne, if_false, q1, decide_true, Bool.not_true, Bool.false_and, Bool.and_false, Bool.false_eq_true]
      · by_cases q2 : kw l o a < kw l (nI w) a
        · simp only [bI, if_true, one_ne, if_false, q1, q2, decide_true, decide_false, Bool.not_true, Bool.and_false, Bool.false_eq_true]
        · simp only [bI, if_true, one_ne, if_false, q1, q2, decide_false, Bool.not_false, Bool.and_true]
  · simp only [f12_restAt_26_s, show ((5 : Int32) ≤ nI 5) = True from by decide, if_true]
def qR (l : Int32) (g : Nat) : Bool := rsB l (nI (g / 5)) (nI (g % 5))
def scan (q : Nat → Bool) (k : Int32) : Nat → Nat → Option Nat
  | 0, _ => none
  | f + 1, g => if q g = true ∧ nI (cnt q g) = k then some g else scan q k f (g + 1)
theorem scan_add (q : Nat → Bool) (k : Int32) : ∀ a b g, scan q k (a + b) g = (match scan q k a g with | some x => some x | none => scan q k b (g + a))
  | 0, b, g => by rw [Nat.zero_add]; rfl
  | a + 1, b, g => by
    rw [show a + 1 + b = (a + b) + 1 by omega]
    show (if q g = true ∧ nI (cnt q g) = k then some g else scan q k (a + b) (g + 1)) = (match (if q g = true ∧ nI (cnt q g) = k then some g else scan q k a (g + 1)) with | some x => some x | none => scan q k b (g + (a + 1)))
    by_cases h : q g = true ∧ nI (cnt q g) = k
    · rw [if_pos h, if_pos h]
    · rw [if_neg h, if_neg h, scan_add q k a b (g + 1), show g + 1 + a = g + (a + 1) by omega]
theorem scan_no {q : Nat → Bool} {k : Int32} {N : Nat} (h : ∀ g, g < N → ¬ nI (cnt q g) = k) : ∀ f g, g + f ≤ N → scan q k f g = none
  | 0, _, _ => rfl
  | f + 1, g, hg => by
    unfold scan
    rw [if_neg (fun e => h g (by omega) e.2), scan_no h f (g + 1) (by omega)]
def rr (e : Int32) : Option Nat → Int32
  | some j => nI (10 * (j / 5) + j % 5)
  | none => e
theorem ten_m {a b : Nat} : (10 * nI a + nI b : Int32) = nI (10 * a + b) := by rw [lit, pk_mul, nI_add]
theorem restAt_go (l k : Int32) : ∀ f g, g + f = 25 → lp (fun z : Int32 × Int32 => f12_restAt_4_s l k z.1 z.2) (nI (cnt (qR l) g), nI g) = some (rr (if 0 ≤ k then -2 else nI (cnt (qR l) 25)) (scan (qR l) k f g))
  | 0, g, hg => by
    have hg : g = 25 := by omega
    subst hg
    refine lp_inr (o := some _) ?_
    simp only [f12_restAt_4_s, f12_restAt_119, show ((25 : Int32) ≤ nI 25) = True from by decide, if_true, scan, rr]
    split <;> rfl
  | f + 1, g, hg => by
    have z : ¬ (25 : Int32) ≤ nI g := by rw [lit]; exact nI_ge (by omega) (by omega)
    have d5 : (nI g / 5 : Int32) = nI (g / 5) := by rw [lit]; exact pk_div (by omega) (by omega) (by omega)
    have r5 : (nI g - nI g / 5 * 5 : Int32) = nI (g % 5) := by rw [lit]; exact pk_rem (by omega) (by omega) (by omega)
    have e : f12_restAt_4_s l k (nI (cnt (qR l) g)) (nI g) = f12_restAt_88 l k (nI (cnt (qR l) g)) (nI g) (nI (g / 5)) (nI (g % 5)) (bI (qR l g)) := by
      simp only [f12_restAt_4_s, z, if_false, lt, r5]
      rw [d5, restAt_in]; rfl
    have step : ∀ v, f12_restAt_4_s l k (nI (cnt (qR l) g)) (nI g) = some (.inl (nI v, nI (g + 1))) → v = cnt (qR l) (g + 1) → ¬ (qR l g = true ∧ nI (cnt (qR l) g) = k) → lp (fun z : Int32 × Int32 => f12_restAt_4_s l k z.1 z.2) (nI (cnt (qR l) g), nI g) = some (rr (if 0 ≤ k then -2 else nI (cnt (qR l) 25)) (scan (qR l) k (f + 1) g)) := by
      intro v h1 h2 h3
      subst h2
      rw [lp_inl (f := fun z : Int32 × Int32 => f12_restAt_4_s l k z.1 z.2) (s := (nI (cnt (qR l) g), nI g)) (s' := (nI (cnt (qR l) (g + 1)), nI (g + 1))) h1, restAt_go l k f (g + 1) (by omega)]
      unfold scan
      rw [if_neg h3]
      cases f <;> rfl
    cases q : qR l g with
    | false =>
      refine step (cnt (qR l) g) ?_ ?_ ?_
      · rw [e, q]
        simp only [f12_restAt_88, f12_restAt_113, bI, Bool.false_eq_true, if_false, if_true, nI_1]
      · show cnt (qR l) g = cnt (qR l) g + (if qR l g then 1 else 0)
        rw [q]; rfl
      · intro h; rw [q] at h; exact absurd h.1 (by decide)
    | true =>
      by_cases h : nI (cnt (qR l) g) = k
      · have s1 : scan (qR l) k (f + 1) g = some g := if_pos ⟨q, h⟩
        rw [s1]
        refine lp_inr (o := some _) ?_
        show f12_restAt_4_s l k (nI (cnt (qR l) g)) (nI g) = _
        rw [e, q]
        simp only [f12_restAt_88, f12_restAt_101, bI, if_true, one_ne, if_false, h, rr, Option.map_some, ten_m]
      · refine step (cnt (qR l) g + 1) ?_ ?_ ?_
        · rw [e, q]
          simp only [f12_restAt_88, f12_restAt_113, bI, if_true, one_ne, if_false, h, nI_1]
        · show cnt (qR l) g + 1 = cnt (qR l) g + (if qR l g then 1 else 0)
          rw [q]; rfl
        · intro h2; exact h h2.2
theorem q5 {l : Int32} {a j : Nat} (hj : j < 5) : qR l (5 * a + j) = rsB l (nI a) (nI j) := by
  unfold qR
  rw [show (5 * a + j) / 5 = a by omega, show (5 * a + j) % 5 = j by omega]
theorem four_n {j : Nat} (h : j < 5) : ¬ (4 : Int32) < nI j := by rw [lit]; exact nI_nlt (by omega) (by omega)
theorem four_5 : (4 : Int32) < nI 5 := by decide
theorem restsC (l : Int32) (c : Hp) : f11_rests_21 l 0 0 c = some (nI (cnt (qR l) 25), c) := by
  unfold f11_rests_21
  refine lp_for1 (f := fun z : Int32 × Int32 => f11_rests_21_s l z.1 z.2 c) (fun a => (nI (cnt (qR l) (5 * a)), nI a)) 5 (fun a ha => ?_) ?_
  · simp only [f11_rests_21_s, four_n ha, if_false, f11_rests_30]
    refine lp_for1 (f := fun z : Int32 × Int32 => f11_rests_30_s l z.1 (nI a) z.2 c) (fun j => (nI (cnt (qR l) (5 * a + j)), nI j)) 5 (fun j hj => ?_) ?_
    · simp only [f11_rests_30_s, f11_rests_50, four_n hj, if_false, isRest_eq, Option.bind_some, ← q5 hj, nI_1]
      show _ = some (Sum.inl (nI (cnt (qR l) (5 * a + j) + (if qR l (5 * a + j) then 1 else 0)), nI (j + 1)))
      cases qR l (5 * a + j) <;> rfl
    · simp only [f11_rests_30_s, f11_rests_56, four_5, if_true, Option.map_some, nI_1, show 5 * (a + 1) = 5 * a + 5 by omega]
  · simp only [f11_rests_21_s, four_5, if_true]
theorem rest_in (l k : Int32) (c : Hp) {a : Nat} : ∀ d j, j + d = 5 → lp (fun z : Int32 × Int32 => f11_rest_35_s k l z.1 (nI a) z.2 c) (nI (cnt (qR l) (5 * a + j)), nI j) = some (match scan (qR l) k d (5 * a + j) with | some g => .inr (nI (10 * (g / 5) + g % 5), c) | none => .inl (nI (cnt (qR l) (5 * a + 5)), nI (a + 1)))
  | 0, j, hj => by
    have hj : j = 5 := by omega
    subst hj
    refine lp_inr (o := some _) ?_
    simp only [f11_rest_35_s, f11_rest_76, four_5, if_true, Option.map_some, nI_1, scan]
  | d + 1, j, hj => by
    have e : f11_rest_35_s k l (nI (cnt (qR l) (5 * a + j))) (nI a) (nI j) c = if bI (qR l (5 * a + j)) = 0 then f11_rest_70 k l (nI (cnt (qR l) (5 * a + j))) (nI a) (nI j) c else (if nI (cnt (qR l) (5 * a + j)) = k then ((f11_rest_58 (nI a) (nI j) c).map (fun z => .inr (.inr (z)))) else (f11_rest_70 k l (nI (cnt (qR l) (5 * a + j)) + 1) (nI a) (nI j) c)) := by
      simp only [f11_rest_35_s, four_n (show j < 5 by omega), if_false, isRest_eq, Option.bind_some, q5 (show j < 5 by omega)]
    have step : ∀ v, f11_rest_35_s k l (nI (cnt (qR l) (5 * a + j))) (nI a) (nI j) c = some (.inl (nI v, nI (j + 1))) → v = cnt (qR l) (5 * a + (j + 1)) → ¬ (qR l (5 * a + j) = true ∧ nI (cnt (qR l) (5 * a + j)) = k) → lp (fun z : Int32 × Int32 => f11_rest_35_s k l z.1 (nI a) z.2 c) (nI (cnt (qR l) (5 * a + j)), nI j) = some (match scan (qR l) k (d + 1) (5 * a + j) with | some g => .inr (nI (10 * (g / 5) + g % 5), c) | none => .inl (nI (cnt (qR l) (5 * a + 5)), nI (a + 1))) := by
      intro v h1 h2 h3
      subst h2
      rw [lp_inl (f := fun z : Int32 × Int32 => f11_rest_35_s k l z.1 (nI a) z.2 c) (s := (nI (cnt (qR l) (5 * a + j)), nI j)) (s' := (nI (cnt (qR l) (5 * a + (j + 1))), nI (j + 1))) h1, rest_in l k c d (j + 1) (by omega)]
      have : scan (qR l) k (d + 1) (5 * a + j) = scan (qR l) k d (5 * a + (j + 1)) := by
        show (if qR l (5 * a + j) = true ∧ nI (cnt (qR l) (5 * a + j)) = k then some (5 * a + j) else scan (qR l) k d (5 * a + j + 1)) = _
        rw [if_neg h3]; rfl
      rw [this]
    cases q : qR l (5 * a + j) with
    | false =>
      refine step (cnt (qR l) (5 * a + j)) ?_ ?_ ?_
      · rw [e, q]
        simp only [f11_rest_70, bI, Bool.false_eq_true, if_false, if_true, nI_1]
      · show _ = cnt (qR l) (5 * a + j) + (if qR l (5 * a + j) then 1 else 0)
        rw [q]; rfl
      · intro h; rw [q] at h; exact absurd h.1 (by decide)
    | true =>
      by_cases h : nI (cnt (qR l) (5 * a + j)) = k
      · have s1 : scan (qR l) k (d + 1) (5 * a + j) = some (5 * a + j) := if_pos ⟨q, h⟩
        rw [s1]
        refine lp_inr (o := some _) ?_
        show f11_rest_35_s k l (nI (cnt (qR l) (5 * a + j))) (nI a) (nI j) c = _
        rw [e, q]
        simp only [f11_rest_58, bI, if_true, one_ne, if_false, h, Option.map_some, ten_m, show (5 * a + j) / 5 = a by omega, show (5 * a + j) % 5 = j by omega]
      · refine step (cnt (qR l) (5 * a + j) + 1) ?_ ?_ ?_
        · rw [e, q]
          simp only [f11_rest_70, bI, if_true, one_ne, if_false, h, nI_1]
        · show _ = cnt (qR l) (5 * a + j) + (if qR l (5 * a + j) then 1 else 0)
          rw [q]; rfl
        · intro h2; exact h h2.2
theorem restC (l k : Int32) (c : Hp) : ∀ d a, a + d = 5 → lp (fun z : Int32 × Int32 => f11_rest_26_s k l z.1 z.2 c) (nI (cnt (qR l) (5 * a)), nI a) = some (rr (-2) (scan (qR l) k (5 * d) (5 * a)), c)
  | 0, a, ha => by
    have ha : a = 5 := by omega
    subst ha
    refine lp_inr (o := some _) ?_
    simp only [f11_rest_26_s, four_5, if_true, Option.map_some, Nat.mul_zero, scan, rr]
  | d + 1, a, ha => by
    have i := rest_in l k c (a := a) 5 0 (by omega)
    have s5 := scan_add (qR l) k 5 (5 * d) (5 * a)
    rw [show 5 + 5 * d = 5 * (d + 1) by omega] at s5
    rw [show 5 * a + 0 = 5 * a by omega] at i
    have e : f11_rest_26_s k l (nI (cnt (qR l) (5 * a))) (nI a) c = lp (fun z : Int32 × Int32 => f11_rest_35_s k l z.1 (nI a) z.2 c) (nI (cnt (qR l) (5 * a)), nI 0) := by
      simp only [f11_rest_26_s, four_n (show a < 5 by omega), if_false, f11_rest_35]; rfl
    cases hs : scan (qR l) k 5 (5 * a) with
    | some g =>
      rw [hs] at i s5
      rw [s5]
      exact lp_inr (o := some _) (e.trans i)
    | none =>
      rw [hs] at i s5
      rw [s5, lp_inl (f := fun z : Int32 × Int32 => f11_rest_26_s k l z.1 z.2 c) (s := (nI (cnt (qR l) (5 * a)), nI a)) (s' := (nI (cnt (qR l) (5 * a + 5)), nI (a + 1))) (e.trans i)]
      exact restC l k c d (a + 1) (by omega)
theorem nowL {S : Sp} {t i : Nat} {c m : Hp} (w0 : wfNow S) (w1 : wfTold S) (w : wfLaws S) (hC : nowC S c) (hM : nowM S m) (hT : toldC S t c) (hU : toldM S m) (hL : lawC S t c) (lM : lawM S m) (hz : bzM m) (hi : i < S 0 0) : ∃ r c' m', f11_laughterOfThisYear (nI i) c = some (r, c') ∧ f12_laughsNow (nI i) m = some (r, m') ∧ frC c c' ∧ frM m m' := by
  have hn := w0.1
  obtain ⟨c2, e4, f4, x4, l4⟩ := trial_ex w0 hC hi
  have T4 := hT.fr hn f4.fr
  obtain ⟨c3, e5, f5⟩ := laugh_ex (K := 1) (d := d50 S) w0 w (hC.fr w0 f4.fr) T4 (hL.f f4.fr) lM (show S 0 4 + 1 ≤ 12000 by have := w0.2.1; omega) (wf_bx w0 hi) x4 l4
  obtain ⟨m2, e2, f2, cx, hb, h30, h57, -, -, N1⟩ := laid_ex w0 hM hU lM hz
  obtain ⟨m3, e3, i3⟩ := YA.step w0 w1 w hL cx (show 0 ≤ 2000 by omega) (YM.zero (fun b hbn _ => hb b hbn) h30 h57)
  have f3 := i3.fr w1 h57
  have q27 : m3.1 27 (6 + i) = nI (yrs S (S 0 4) (fun _ => d50 S) (psS S i) (bxS S i) 1 9) := (i3.bx w1 hi).2.2.2.2.1
  have q0 : m3.1 27 i = nI (bxS S i 9) := ((N1.fr w0 f3).2.2.2.2 i hi).2.2.2.2.2.1
  have e5 : f11_laughterOnTrial 1 (bI (d50 S)) c2 = some (nI (gnB S (d50 S) (psS S i) (bxS S i) 1), c3) := e5
  refine ⟨nI (gnB S (d50 S) (psS S i) (bxS S i) 1), c3, m3, ?_, ?_, f4.fr.tr f5.fr, f2.tr f3⟩
  · simp only [f11_laughterOfThisYear, gd, inb_t (show i < 6 by omega) (by omega), if_true, ix_nI (show i < 2 ^ 31 by omega), e4, Option.bind_some, isDampGoes_eq w1 T4, e5]
  · simp only [f12_laughsNow, e2, e3, Option.bind_some, gd, six_i, inb_t (show 6 + i < 12 by omega) (by omega), inb_t (show i < 12 by omega) (by omega), ix_nI (show 6 + i < 2 ^ 31 by omega), ix_nI (show i < 2 ^ 31 by omega), if_true, q27, q0, pk_sub (yrs_9 1), gnB]
theorem op_rests {S : Sp} {t : Nat} {c m : Hp} (w0 : wfNow S) (w1 : wfTold S) (w : wfLaws S) (hC : nowC S c) (hM : nowM S m) (hT : toldC S t c) (hU : toldM S m) (hL : lawC S t c) (lM : lawM S m) (hz : bzM m) (x : Int32) : ∃ r c' m', f11_rests x c = some (r, c') ∧ f12_rests x m = some (r, m') ∧ frC c c' ∧ frM m m' := by
  have hn := w0.1
  obtain ⟨m1, em, fr⟩ := m0_ex m
  have hM1 := hM.fr w0 fr
  simp only [f11_rests, f12_rests, em, lt, isBoxC, isBoxM, hC.1, hM1.1, Option.bind_some]
  rcases bi_cases x (S 0 0) (by omega) with h | ⟨i, hi, rfl, h⟩
  · simp only [h, if_true]; exact ⟨_, _, _, rfl, rfl, frC.rf, fr⟩
  obtain ⟨r, c', m', e1, e2, f1, f2⟩ := nowL w0 w1 w hC hM1 hT (hU.fr fr) hL (lM.f fr) (hz.fr fr) hi
  have e3 : f12_restAt r (-1) = some (nI (cnt (qR r) 25)) := by
    have := restAt_go r (-1) 25 0 (by omega)
    rw [scan_no (N := 25) (fun g hg => m1_ne (by have := cnt_le (qR r) g; omega)) 25 0 (by omega)] at this
    exact this
  simp only [h, one_ne, if_false, e1, e2, Option.bind_some, restsC, e3]
  exact ⟨_, _, _, rfl, rfl, f1, fr.tr f2⟩
theorem op_rest {S : Sp} {t : Nat} {c m : Hp} (w0 : wfNow S) (w1 : wfTold S) (w : wfLaws S) (hC : nowC S c) (hM : nowM S m) (hT : toldC S t c) (hU : toldM S m) (hL : lawC S t c) (lM : lawM S m) (hz : bzM m) (x y : Int32) : ∃ r c' m', f11_rest x y c = some (r, c') ∧ f12_rest x y m = some (r, m') ∧ frC c c' ∧ frM m m' := by
  have hn := w0.1
  obtain ⟨m1, em, fr⟩ := m0_ex m
  have hM1 := hM.fr w0 fr
  simp only [f11_rest, f12_rest, f12_rest_29, em, lt, isBoxC, isBoxM, hC.1, hM1.1, Option.bind_some]
  rcases bi_cases x (S 0 0) (by omega) with h | ⟨i, hi, rfl, h⟩
  · simp only [h, if_true]; exact ⟨_, _, _, rfl, rfl, frC.rf, fr⟩
  obtain ⟨r, c', m', e1, e2, f1, f2⟩ := nowL w0 w1 w hC hM1 hT (hU.fr fr) hL (lM.f fr) (hz.fr fr) hi
  by_cases q : y < 0
  · have q2 : ¬ 0 ≤ y := by rw [Int32.not_le]; exact q
    simp only [h, one_ne, if_false, q, q2, if_true]; exact ⟨_, _, _, rfl, rfl, frC.rf, fr⟩
  · have q2 : 0 ≤ y := Int32.not_lt.mp q
    have e3 : f12_restAt r y = some (rr (-2) (scan (qR r) y 25 0)) := by
      have := restAt_go r y 25 0 (by omega)
      rw [if_pos q2] at this
      exact this
    have e4 : f11_rest_26 y r 0 0 c' = some (rr (-2) (scan (qR r) y 25 0), c') := restC r y c' 5 0 (by omega)
    simp only [h, one_ne, if_false, q, q2, if_true, e1, e2, Option.bind_some, e4, e3]
    exact ⟨_, _, _, rfl, rfl, f1, fr.tr f2⟩
