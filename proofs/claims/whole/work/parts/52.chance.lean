/-! chance: years by drawn numbers. -/
def drw (dp : Nat) : Bool := decide (0 < dp ∧ dp < 100)
theorem dmp_dr {dp num : Nat} (h : dp ≤ 100) : dmpS dp false true num = if drw dp then (decide (nxt num / 65536 % 100 < dp), nxt num) else (decide (dp = 100), num) := by
  unfold dmpS drw
  generalize nxt num = z
  rw [if_neg (show ¬ (false = true) from by decide)]
  by_cases q : dp = 0
  · rw [if_pos q, if_neg (by rw [decide_eq_true_eq]; omega), decide_eq_false (by omega)]
  · rw [if_neg q]
    by_cases q2 : dp = 100
    · rw [if_pos q2, if_neg (by rw [decide_eq_true_eq]; omega), decide_eq_true q2]
    · rw [if_neg q2, if_pos rfl, if_pos (by rw [decide_eq_true_eq]; omega)]
theorem isDrawn_eq {S : Sp} {t : Nat} {c : Hp} (w : wfTold S) (h : toldC S t c) : f10_isDrawn t c = some (bI (drw (S 0 7))) := by
  have h7 := w.2.2.2.1
  obtain ⟨h1, h2, h3, h4, h5, h6, h9, h8⟩ := h
  simp only [f10_isDrawn, f10_isDrawn_20, h9]
  unfold drw
  by_cases q : S 0 7 = 0
  · rw [q]; rfl
  · rw [if_neg (nI_nle (by omega) (by omega))]
    by_cases q2 : S 0 7 < 100
    · rw [if_neg (by rw [show (100 : Int32) = nI 100 from rfl]; exact nI_ge q2 (by omega)), decide_eq_true (by omega)]; rfl
    · rw [if_pos (by rw [show (100 : Int32) = nI 100 from rfl]; exact nI_le (by omega) (by omega)), decide_eq_false (by omega)]; rfl
theorem isDampBy_eq {S : Sp} {t num : Nat} {c : Hp} (w : wfTold S) (h : toldC S t c) (hn : num < 2 ^ 31) : f10_isDampBy t (nI num) c = some (bI (if drw (S 0 7) then decide (num / 65536 % 100 < S 0 7) else decide (S 0 7 = 100))) := by
  have h7 := w.2.2.2.1
  have ed := isDrawn_eq w h
  obtain ⟨h1, h2, h3, h4, h5, h6, h9, h8⟩ := h
  have e1 : (nI num / 65536 : Int32) = nI (num / 65536) := by rw [show (65536 : Int32) = nI 65536 from rfl]; exact pk_div hn (by omega) (by omega)
  have e2 : (nI (num / 65536) - nI (num / 65536) / 100 * 100 : Int32) = nI (num / 65536 % 100) := by rw [show (100 : Int32) = nI 100 from rfl]; exact pk_rem (by omega) (by omega) (by omega)
  simp only [f10_isDampBy, ed, Option.bind_some, h9, e1, e2]
  cases drw (S 0 7) with
  | false =>
    simp only [bI, Bool.false_eq_true, if_false, if_true]
    by_cases q : S 0 7 = 100
    · rw [if_pos (by rw [q]; rfl), decide_eq_true q]; rfl
    · rw [if_neg (by rw [show (100 : Int32) = nI 100 from rfl, nI_eq (by omega) (by omega)]; exact q), decide_eq_false q]; rfl
  | true =>
    simp only [bI, one_ne, if_false, if_true]
    by_cases q : num / 65536 % 100 < S 0 7
    · rw [if_neg (nI_ge q (by omega)), decide_eq_true q]; rfl
    · rw [if_pos (nI_le (by omega) (by omega)), decide_eq_false q]; rfl
/-- the number that is drawn, and whether it is damp by it -/
theorem drawn_eq {S : Sp} {t num : Nat} {ρ : Type} {c : Hp} (w : wfTold S) (h : toldC S t c) (hn : num < 2 ^ 31) (K : Int32 → Option ρ) : (f10_isDrawn t c).bind (fun r => if r = 0 then K (nI num) else (f9_nextNumber (nI num)).bind K) = K (nI (dmpS (S 0 7) false true num).2) := by
  rw [isDrawn_eq w h, Option.bind_some, dmp_dr w.2.2.2.1, nxt_I hn]
  generalize nxt num = z
  cases drw (S 0 7) with
  | false => rfl
  | true => rfl
theorem damp_eq {S : Sp} {t num : Nat} {c : Hp} (w : wfTold S) (h : toldC S t c) (hn : num < 2 ^ 31) : f10_isDampBy t (nI (dmpS (S 0 7) false true num).2) c = some (bI (dmpS (S 0 7) false true num).1) := by
  rw [isDampBy_eq w h (dmpS_lt hn), dmp_dr w.2.2.2.1]
  generalize nxt num = z
  cases drw (S 0 7) with
  | false => simp only [Bool.false_eq_true, if_false]
  | true => simp only [if_true]
theorem draw_ex {S : Sp} {t Y K num : Nat} {B P : Bx} {c m : Hp} (w0 : wfNow S) (w1 : wfTold S) (w : wfLaws S) (hN : nowC S c) (hT : toldC S t c) (hL : lawC S t c) (hM : lawM S m) (hY : Y + K ≤ 12000) (hnum : num < 2 ^ 31) (wb : wfB Y B P) (h : bxC B P 51 c) : ∃ c', f11_drawOnTrial (nI num) (nI K) c = some (nI (nmS (S 0 7) false true num K), c') ∧ bxC (yrs S (S 0 4) (dsS (S 0 7) false true num) P B K) P 51 c' ∧ fr51 c c' := by
  have hn := w0.1
  have hkd := kd10 hT.2.1
  unfold f11_drawOnTrial f11_drawOnTrial_5
  obtain ⟨⟨x, y, h1⟩, e, e1, e2, hx, fx⟩ := lp_walk (f := fun z : Int32 × Int32 × Hp => f11_drawOnTrial_5_s (nI K) z.1 z.2.1 z.2.2) (fun i z => z.1 = nI (nmS (S 0 7) false true num i) ∧ z.2.1 = nI i ∧ bxC (yrs S (S 0 4) (dsS (S 0 7) false true num) P B i) P 51 z.2.2 ∧ fr51 c z.2.2) K (nI num, 0, c) ⟨rfl, rfl, h, fr51.rf⟩ (fun i z hi hI => by
    obtain ⟨x, y, h1⟩ := z
    dsimp only at hI
    obtain ⟨rfl, rfl, hx, fx⟩ := hI
    have T1 := hT.fr hn fx.fr
    have N1 := hN.fr w0 fx.fr
    have hi2 := nmS_lt (dp := S 0 7) (nd := false) (dr := true) hnum i
    obtain ⟨c2, e2, x2, f2, -⟩ := trialYear (y := S 0 4 + i) (d := dsS (S 0 7) false true num i) (lf := 0) w (hL.f fx.fr) hM (show Y + i ≤ 12000 by omega) (by omega) (wf_yrs wb i) hx
    have e2 : f0_goOneYear 51 (t + 14) (nI (S 0 4 + i)) (bI (dsS (S 0 7) false true num i)) 0 h1 = some c2 := e2
    refine ⟨(nI (nmS (S 0 7) false true num (i + 1)), nI (i + 1), c2), ?_, rfl, rfl, x2, fx.tr f2⟩
    have ed := drawn_eq (ρ := (Int32 × Int32 × Hp) ⊕ (Int32 × Hp)) w1 T1 hi2 (fun v => f11_drawOnTrial_29 (nI K) (nI i) v h1)
    have ee : f10_isDampBy t (nI (nmS (S 0 7) false true num (i + 1))) h1 = some (bI (dsS (S 0 7) false true num i)) := damp_eq w1 T1 hi2
    have e9 : f11_drawOnTrial_29 (nI K) (nI i) (nI (nmS (S 0 7) false true num (i + 1))) h1 = some (.inl (nI (nmS (S 0 7) false true num (i + 1)), nI (i + 1), c2)) := by
      simp only [f11_drawOnTrial_29, T1.1, Option.bind_some, gd, hkd, if_true, ee, N1.2.1, nI_add, e2, nI_1]
    simp only [f11_drawOnTrial_5_s, nI_ge hi (show K < 2 ^ 31 by omega), if_false, T1.1, Option.bind_some, gd, hkd, if_true]
    exact ed.trans e9)
  dsimp only at e1 e2 hx fx
  subst e1 e2
  refine ⟨h1, ?_, hx, fx⟩
  rw [show (0 : Int32) = nI 0 from rfl] at e
  show lp _ (nI num, 0, c) = _
  rw [show (0 : Int32) = nI 0 from rfl, e]
  refine lp_inr (o := some _) ?_
  simp only [f11_drawOnTrial_5_s, nI_le (Nat.le_refl K) (show K < 2 ^ 31 by omega), if_true, Option.map_some]
theorem laidN_ex {S : Sp} {m h : Hp} (w0 : wfNow S) (hM : nowM S m) (hU : toldM S m) (lM : lawM S m) (hz : bzM m) (f : ∀ q k, ¬ scrM q k → h.1 q k = m.1 q k) : ∃ h', f12_layTried h = some h' ∧ (∀ q k, ¬ scrM q k → h'.1 q k = m.1 q k) ∧ h'.2 = h.2 ∧ cxM S (S 0 0) (S 0 7) false false none h' ∧ (∀ b, b < S 0 0 → bxM (bxS S b) (psS S b) 1 b h') ∧ h'.1 30 1 = nI (S 0 4) ∧ h'.1 0 60 = 0 ∧ h'.1 0 61 = 0 := by
  have hn := w0.1
  have F : frM m (h.1, m.2.1, h.2.2) := ⟨f, rfl, rfl⟩
  have N := hM.fr w0 F
  have U := hU.fr F
  have L := lM.f F
  have hz1 := hz.fr F
  obtain ⟨h', e, g, o, o2, p58, p59, p60, p61, p62, p30, p31, pb⟩ := layTried_ex (m := h) hz1
  refine ⟨h', e, fun q k n => (g.1 q k n).trans (f q k n), o2, ⟨L.o (fun q k a b => o q k (by omega) (by omega) (by omega)), (o 0 12 (by omega) (by omega) (by omega)).trans N.1, p62, p58, p59, (o 4 0 (by omega) (by omega) (by omega)).trans U.2.2.2.1⟩, fun b hb => ?_, p30.trans N.2.1, p60, p61⟩
  obtain ⟨b1, b2, b3, b4, b5, b6, b7, b8, b9⟩ := N.2.2.2.2 b hb
  refine ⟨?_, ?_, ?_, ?_, ?_, ?_, ?_, fun k hk => ?_⟩
  · rw [o _ _ (by omega) (by omega) (by omega)]; exact b1
  · rw [pb 24 b (by omega) (by omega) (by omega)]; exact b3
  · rw [pb 25 b (by omega) (by omega) (by omega)]; exact b4
  · rw [pb 26 b (by omega) (by omega) (by omega)]; exact b5
  · rw [pb 27 b (by omega) (by omega) (by omega)]; exact b6
  · rw [if_pos p60, pb 28 b (by omega) (by omega) (by omega)]; exact b8
  · rw [if_pos p61, pb 29 b (by omega) (by omega) (by omega)]; exact b7
  · rw [o _ _ (by omega) (by omega) (by omega)]; exact b9 k hk
theorem frZ.s {n : Nat} {g : Option Nat} {m m' : Hp} (h : frZ 1 n g m m') : ∀ q k, ¬ scrM q k → m'.1 q k = m.1 q k := by
  intro q k a
  unfold scrM at a
  exact h.1 q k (by omega) (by omega) (fun x y b hb hne e => by omega)
/-- the number ahead of the j-th trial; whether it is so false behind it -/
def cN (dp K num : Nat) : Nat → Nat
  | 0 => num
  | j + 1 => nmS dp false true (cN dp K num j) K
theorem cN_lt {dp K num : Nat} (h : num < 2 ^ 31) : ∀ j, cN dp K num j < 2 ^ 31
  | 0 => h
  | j + 1 => nmS_lt (cN_lt h j) K
noncomputable def hitF (S : Sp) (K num i fl j : Nat) : Bool := decide (fl ≤ yrs S (S 0 4) (dsS (S 0 7) false true (cN (S 0 7) K num j)) (psS S i) (bxS S i) K 3)
theorem op_chance {S : Sp} {t : Nat} {c m : Hp} (w0 : wfNow S) (w1 : wfTold S) (w : wfLaws S) (hC : nowC S c) (hM : nowM S m) (hT : toldC S t c) (hU : toldM S m) (hL : lawC S t c) (lM : lawM S m) (hz : bzM m) (x y z u : Int32) : ∃ r c' m', f11_chance x y z u c = some (r, c') ∧ f12_chance x y z u m = some (r, m') ∧ frC c c' ∧ frM m m' := by
  have hn := w0.1
  obtain ⟨m1, em, fr⟩ := m0_ex m
  have hM1 := hM.fr w0 fr
  have hU1 := hU.fr fr
  have lM1 := lM.f fr
  have hz1 := hz.fr fr
  simp only [f11_chance, f12_chance, em, lt, isBoxC, isBoxM, isWithin_eq, isIn_eq, hC.1, hM1.1, Option.bind_some]
  by_cases q : x < 0
  · simp only [q, if_true, ite_self]; exact ⟨_, _, _, rfl, rfl, frC.rf, fr⟩
  rcases wi_cases y 1 99 (by omega) (by omega) with h2 | ⟨K, hK1, hK, rfl, h2⟩
  · simp only [q, show wi y 1 99 = 0 from h2, if_true, if_false, ite_self]; exact ⟨_, _, _, rfl, rfl, frC.rf, fr⟩
  have h2 : wi (nI K) 1 99 = 1 := h2
  rcases bi_cases z (S 0 0) (by omega) with h | ⟨i, hi, rfl, h⟩
  · simp only [q, h, h2, one_ne, if_true, if_false]; exact ⟨_, _, _, rfl, rfl, frC.rf, fr⟩
  rcases wi_cases u 0 99 (by omega) (by omega) with h3 | ⟨fl, -, hfl, rfl, h3⟩
  · simp only [q, h, h2, show wi u 0 99 = 0 from h3, one_ne, if_true, if_false]; exact ⟨_, _, _, rfl, rfl, frC.rf, fr⟩
  have h3 : wi (nI fl) 0 99 = 1 := h3
  obtain ⟨num, hnum, rfl⟩ := nI_of q
  simp only [q, h, h2, h3, one_ne, if_false, nI_l hnum]
  have hY : S 0 4 + K ≤ 12000 := by have := w0.2.1; omega
  have k3 : ∀ j, yrs S (S 0 4) (dsS (S 0 7) false true (cN (S 0 7) K num j)) (psS S i) (bxS S i) K 3 ≤ 99 := fun j => (wf_yrs (wf_bx w0 hi) K).2.2.1
  have cls : ∃ c', f11_chance_44 (nI K) (nI i) (nI fl) (nI num) 0 0 c = some (nI (cnt (hitF S K num i fl) 10), c') ∧ frC c c' := by
    unfold f11_chance_44
    obtain ⟨⟨a, b, d, e0⟩, e, i1, i2, i3, i4⟩ := lp_walk (f := fun z : Int32 × Int32 × Int32 × Hp => f11_chance_44_s (nI K) (nI i) (nI fl) z.1 z.2.1 z.2.2.1 z.2.2.2) (fun j z => z.1 = nI (cN (S 0 7) K num j) ∧ z.2.1 = nI (cnt (hitF S K num i fl) j) ∧ z.2.2.1 = nI j ∧ fr51 c z.2.2.2) 10 (nI num, 0, 0, c) ⟨rfl, rfl, rfl, fr51.rf⟩ (fun j z hj hI => by
      obtain ⟨a, b, d, c1⟩ := z
      dsimp only at hI
      obtain ⟨rfl, rfl, rfl, f⟩ := hI
      have C1 := hC.fr w0 f.fr
      obtain ⟨c2, e4, f4, x4, l4⟩ := trial_ex w0 C1 hi
      obtain ⟨c3, a1, a2, a3⟩ := draw_ex w0 w1 w (C1.fr w0 f4.fr) ((hT.fr hn f.fr).fr hn f4.fr) ((hL.f f.fr).f f4.fr) lM hY (cN_lt hnum j) (wf_bx w0 hi) x4
      refine ⟨(nI (cN (S 0 7) K num (j + 1)), nI (cnt (hitF S K num i fl) (j + 1)), nI (j + 1), c3), ?_, rfl, rfl, rfl, (f.tr f4).tr a3⟩
      have k := k3 j
      have a1 : f11_drawOnTrial (nI (cN (S 0 7) K num j)) (nI K) c2 = some (nI (cN (S 0 7) K num (j + 1)), c3) := a1
      simp only [f11_chance_44_s, f11_chance_91, g10 hj, if_false, gd, inb_t (show i < 6 by omega) (by omega), if_true, ix_nI (show i < 2 ^ 31 by omega), e4, Option.bind_some, a1, a2.2.2.2.1, nI_1, cnt]
      by_cases q : fl ≤ yrs S (S 0 4) (dsS (S 0 7) false true (cN (S 0 7) K num j)) (psS S i) (bxS S i) K 3
      · have hh : hitF S K num i fl j = true := decide_eq_true q
        rw [if_neg (nI_nlt q (by omega)), hh]; rfl
      · have hh : hitF S K num i fl j = false := decide_eq_false q
        rw [if_pos (nI_lt (by omega) (by omega)), hh]; rfl)
    dsimp only at i1 i2 i3 i4
    subst i1 i2 i3
    refine ⟨e0, ?_, i4.fr⟩
    rw [e]
    refine lp_inr (o := some _) ?_
    simp only [f11_chance_44_s, l10, if_true, Option.map_some]
  have ref : ∃ m', f12_chance_58 (nI K) (nI i) (nI fl) (m1.2.1 0 57) 0 0 (wJ m1 0 57 (lN num)) = some (nI (cnt (hitF S K num i fl) 10), m') ∧ frM m1 m' := by
    unfold f12_chance_58
    obtain ⟨⟨a, b, e0⟩, e, i1, i2, i3, i4, i5⟩ := lp_walk (f := fun z : Int32 × Int32 × Hp => f12_chance_58_s (nI K) (nI i) (nI fl) (m1.2.1 0 57) z.1 z.2.1 z.2.2) (fun j z => z.1 = nI (cnt (hitF S K num i fl) j) ∧ z.2.1 = nI j ∧ z.2.2.2.1 0 57 = lN (cN (S 0 7) K num j) ∧ (∀ q k, ¬ scrM q k → z.2.2.1 q k = m1.1 q k) ∧ z.2.2.2.1 0 74 = m1.2.1 0 74) 10 (0, 0, wJ m1 0 57 (lN num)) ⟨rfl, rfl, wJ_s, fun _ _ _ => rfl, wJ_o (by omega)⟩ (fun j z hj hI => by
      obtain ⟨a, b, h0⟩ := z
      dsimp only at hI
      obtain ⟨rfl, rfl, j3, j4, j5⟩ := hI
      obtain ⟨h1, e1, o1, o2, cx, hb, h30, -, -⟩ := laidN_ex w0 hM1 hU1 lM1 hz1 j4
      obtain ⟨h2, e2⟩ : ∃ h2, h2 = wI h1 0 58 1 := ⟨_, rfl⟩
      have p2 : ∀ q k, ¬ (q = 0 ∧ k = 58) → h2.1 q k = h1.1 q k := fun q k n => by rw [e2]; exact wI_o n
      have cx2 : cxM S (S 0 0) (S 0 7) false true none h2 := ⟨cx.1.o (fun q k _ _ => p2 q k (by omega)), (p2 _ _ (by omega)).trans cx.2.1, (p2 _ _ (by omega)).trans cx.2.2.1, by rw [e2, wI_s]; rfl, (p2 _ _ (by omega)).trans cx.2.2.2.2.1, (p2 _ _ (by omega)).trans cx.2.2.2.2.2⟩
      have h57 : h2.2.1 0 57 = lN (cN (S 0 7) K num j) := by rw [e2]; show h1.2.1 0 57 = _; rw [o2]; exact j3
      obtain ⟨h3, e3, i3⟩ := goMany_ex (t := t) (Y := S 0 4) (K := K) w hL cx2 hn (fun j h => by cases h) w1.2.2.2.1 (cN_lt hnum j) hY (fun b hbn _ => wf_bx w0 hbn) (fun b hbn _ => (hb b hbn).p (fun q k hq => p2 q k (by omega))) ((p2 _ _ (by omega)).trans h30) h57
      have q25 : h3.1 25 (6 + i) = nI (yrs S (S 0 4) (dsS (S 0 7) false true (cN (S 0 7) K num j)) (psS S i) (bxS S i) K 3) := (i3.1 i hi (by intro h; cases h)).2.2.1
      refine ⟨(nI (cnt (hitF S K num i fl) (j + 1)), nI (j + 1), h3), ?_, rfl, rfl, i3.2.2.2.1, fun q k n => ?_, ?_⟩
      · have k := k3 j
        simp only [f12_chance_58_s, f12_chance_100, g10 hj, if_false, e1, Option.bind_some, lt, ← e2, e3, gd, six_i, inb_t (show 6 + i < 12 by omega) (by omega), if_true, ix_nI (show 6 + i < 2 ^ 31 by omega), q25, nI_1, cnt]
        by_cases q : fl ≤ yrs S (S 0 4) (dsS (S 0 7) false true (cN (S 0 7) K num j)) (psS S i) (bxS S i) K 3
        · have hh : hitF S K num i fl j = true := decide_eq_true q
          rw [if_neg (nI_nlt q (by omega)), hh]; rfl
        · have hh : hitF S K num i fl j = false := decide_eq_false q
          rw [if_pos (nI_lt (by omega) (by omega)), hh, Int32.add_zero]; rfl
      · rw [i3.2.2.2.2.s q k n, p2 q k (fun e => n (by unfold scrM; omega)), o1 q k n]
      · rw [i3.2.2.2.2.2.1, e2]; show h1.2.1 0 74 = _; rw [o2]; exact j5)
    dsimp only at i1 i2 i3 i4 i5
    subst i1 i2
    refine ⟨wJ (wI e0 0 58 0) 0 57 (m1.2.1 0 57), ?_, ?_, wJ_s, (wJ_o (by omega)).trans i5⟩
    · rw [e]
      refine lp_inr (o := some _) ?_
      simp only [f12_chance_58_s, f12_chance_109, l10, if_true, lt, Option.map_some]
    · intro q k n
      show (wI e0 0 58 0).1 q k = _
      rw [wI_o (fun e => n (by unfold scrM; omega)), i4 q k n]
  obtain ⟨c', ec, fc⟩ := cls
  obtain ⟨m', e2, f2⟩ := ref
  exact ⟨_, _, _, ec, e2, fc, fr.tr f2⟩
