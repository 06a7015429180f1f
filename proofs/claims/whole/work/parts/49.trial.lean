/-! The class's trial box. -/
def d50 (S : Sp) : Bool := decide (50 ≤ S 0 7)
theorem isDampGoes_eq {S : Sp} {t : Nat} {c : Hp} (w : wfTold S) (h : toldC S t c) : f11_isDampAsItGoes c = some (bI (d50 S)) := by
  have h7 := w.2.2.2.1
  obtain ⟨h1, h2, h3, h4, h5, h6, h9, h8⟩ := h
  have hkd := kd10 h2
  simp only [f11_isDampAsItGoes, h1, Option.bind_some, gd, hkd, if_true, h9]
  unfold d50
  by_cases q : S 0 7 < 50
  · rw [if_pos (by rw [show (50 : Int32) = nI 50 from rfl]; exact nI_lt q (by omega)), decide_eq_false (by omega)]; rfl
  · rw [if_neg (by rw [show (50 : Int32) = nI 50 from rfl]; exact nI_nlt (by omega) (by omega)), decide_eq_true (by omega)]; rfl
/-- the class beside c: the trial box and the rows of values may differ -/
def fr51 (c h : Hp) : Prop := (∀ q k, ¬ (51 ≤ q ∧ q ≤ 52) → h.1 q k = c.1 q k) ∧ h.2.2 = c.2.2
theorem fr51.rf {c : Hp} : fr51 c c := ⟨fun _ _ _ => rfl, rfl⟩
theorem fr51.tr {a b c : Hp} (h : fr51 a b) (h' : fr51 b c) : fr51 a c := ⟨fun q k n => (h'.1 q k n).trans (h.1 q k n), h'.2.trans h.2⟩
theorem fr51.fr {c h : Hp} (f : fr51 c h) : frC c h := ⟨fun q k n => f.1 q k (fun e => n (by unfold scrC; omega)), f.2⟩
theorem lawC.f {S : Sp} {t : Nat} {c c' : Hp} (h : lawC S t c) (f : frC c c') : lawC S t c' := by
  obtain ⟨ht, h1, h2⟩ := h
  exact ⟨ht, fun i hi => ⟨(f.1 _ _ (by unfold scrC; omega)).trans (h1 i hi).1, (f.1 _ _ (by unfold scrC; omega)).trans (h1 i hi).2⟩, fun l hl => ⟨(f.1 _ _ (by unfold scrC; omega)).trans (h2 l hl).1, (f.1 _ _ (by unfold scrC; omega)).trans (h2 l hl).2⟩⟩
theorem trial_ex {S : Sp} {c : Hp} {i : Nat} (w : wfNow S) (hC : nowC S c) (hi : i < S 0 0) : ∃ c', f0_copyOf 51 (8 + 2 * i) c = some c' ∧ fr51 c c' ∧ bxC (bxS S i) (psS S i) 51 c' ∧ c'.1 51 8 = nI (S 9 i) := by
  have hn := w.1
  have b := hC.2.2.2.2 i hi
  have wi := w.2.2.2.2 i hi
  obtain ⟨c', e, o, o2, h1, h2⟩ := copyBox (h := c) (p := 51) (q := 8 + 2 * i) (by omega) (by omega) (by omega) (by rw [b.2.2.2.2.2.2.2.2.1]; exact bz_nI wi.2.2.2.2.2.1)
  refine ⟨c', e, ⟨fun q k n => o q k (by omega) (by omega), by rw [o2]⟩, ?_, ?_⟩
  · exact bxC_of (boxC.copy b h1 h2)
  · rw [h1 8 (by omega) (by omega)]; exact b.2.2.2.2.2.2.1
/-- what a year of the trial box does -/
theorem trialYear {S : Sp} {t y Y lf : Nat} {d : Bool} {B P : Bx} {c m : Hp} (w : wfLaws S) (hL : lawC S t c) (hM : lawM S m) (hY : Y ≤ 12000) (hlf : lf ≤ 1) (wb : wfB Y B P) (h : bxC B P 51 c) : ∃ c', f0_goOneYear 51 (t + 14) (nI y) (bI d) (nI lf) c = some c' ∧ bxC (yrB S y d P B) P 51 c' ∧ fr51 c c' ∧ (lf = 1 → c.1 51 8 = nI (B 9) → c'.1 51 8 = nI (yrB S y d P B 9)) := by
  obtain ⟨c', a1, a2, a3, a4, a5, a6, a7⟩ := year_C w hL hM (show 51 < 55 by omega) hY hlf wb h (y := y) (d := d)
  exact ⟨c', a1, a2, ⟨fun q k n => a3 q k (by omega), a4⟩, a7⟩
theorem goOnTrial_ex {S : Sp} {t Y K lf : Nat} {B P : Bx} {c m : Hp} (w0 : wfNow S) (w1 : wfTold S) (w : wfLaws S) (hN : nowC S c) (hT : toldC S t c) (hL : lawC S t c) (hM : lawM S m) (hY : Y + K ≤ 12000) (hlf : lf ≤ 1) (wb : wfB Y B P) (h : bxC B P 51 c) : ∃ c', f11_goOnTrial (nI K) (nI lf) c = some c' ∧ bxC (yrs S (S 0 4) (fun _ => d50 S) P B K) P 51 c' ∧ fr51 c c' ∧ (lf = 1 → c.1 51 8 = nI (B 9) → c'.1 51 8 = nI (yrs S (S 0 4) (fun _ => d50 S) P B K 9)) := by
  have hn := w0.1
  unfold f11_goOnTrial f11_goOnTrial_2
  obtain ⟨⟨x, h1⟩, e, e1, hx, fx, lx⟩ := lp_walk (f := fun z : Int32 × Hp => f11_goOnTrial_2_s (nI K) (nI lf) z.1 z.2) (fun i z => z.1 = nI i ∧ bxC (yrs S (S 0 4) (fun _ => d50 S) P B i) P 51 z.2 ∧ fr51 c z.2 ∧ (lf = 1 → c.1 51 8 = nI (B 9) → z.2.1 51 8 = nI (yrs S (S 0 4) (fun _ => d50 S) P B i 9))) K (0, c) ⟨rfl, h, fr51.rf, fun _ z => z⟩ (fun i z hi hI => by
    obtain ⟨x, h1⟩ := z
    dsimp only at hI
    obtain ⟨e1, hx, fx, lx⟩ := hI
    subst e1
    have T1 := hT.fr hn fx.fr
    have N1 := hN.fr w0 fx.fr
    obtain ⟨c2, e2, x2, f2, l2⟩ := trialYear (y := S 0 4 + i) (d := d50 S) w (hL.f fx.fr) hM (show Y + i ≤ 12000 by omega) hlf (wf_yrs wb i) hx
    refine ⟨(nI (i + 1), c2), ?_, rfl, x2, fx.tr f2, fun a b => l2 a (lx a b)⟩
    have hkd := kd10 hT.2.1
    simp only [f11_goOnTrial_2_s, nI_ge hi (show K < 2 ^ 31 by omega), if_false, T1.1, Option.bind_some, gd, hkd, if_true, isDampGoes_eq w1 T1, N1.2.1, nI_add, e2, nI_1])
  have e1 : x = nI K := e1
  subst e1
  refine ⟨h1, ?_, hx, fx, lx⟩
  rw [e]
  refine lp_inr (o := some h1) ?_
  simp only [f11_goOnTrial_2_s, nI_le (Nat.le_refl K) (show K < 2 ^ 31 by omega), if_true, Option.map_some]
theorem lg_9 {S : Sp} {y : Nat} {P B : Bx} : B 9 ≤ (if goB B then letB S y P B else B) 9 := by
  split
  · show B 9 ≤ B 9 + _
    omega
  · exact Nat.le_refl _
theorem yr_9 {S : Sp} {y : Nat} {d : Bool} {P B : Bx} : B 9 ≤ yrB S y d P B 9 := by
  unfold yrB
  have := lg_9 (S := S) (y := y) (P := P) (B := B)
  split
  · exact this
  · exact this
theorem yrs_9 {S : Sp} {y : Nat} {ds : Nat → Bool} {P B : Bx} : ∀ k, B 9 ≤ yrs S y ds P B k 9
  | 0 => Nat.le_refl _
  | k + 1 => Nat.le_trans (yrs_9 k) yr_9
theorem lg_8 {S : Sp} {y : Nat} {P B : Bx} : B 8 ≤ (if goB B then letB S y P B else B) 8 := by
  split
  · show B 8 ≤ B 8 + 1
    omega
  · exact Nat.le_refl _
theorem yrs_8 {S : Sp} {y : Nat} {ds : Nat → Bool} {P B : Bx} : ∀ k, B 8 ≤ yrs S y ds P B k 8
  | 0 => Nat.le_refl _
  | k + 1 => by
    refine Nat.le_trans (yrs_8 (S := S) (y := y) (ds := ds) (P := P) k) ?_
    show yrs S y ds P B k 8 ≤ yrB S (y + k) (ds k) P (yrs S y ds P B k) 8
    unfold yrB
    have := lg_8 (S := S) (y := y + k) (P := P) (B := yrs S y ds P B k)
    split
    · exact this
    · exact this
/-- one that isn't let go isn't let go later -/
theorem yr_stay {S : Sp} {y : Nat} {d : Bool} {P B : Bx} (h : goB B = false) : yrB S y d P B 9 = B 9 ∧ yrB S y d P B 2 = B 2 ∧ goB (yrB S y d P B) = false := by
  have e : (if goB B then letB S y P B else B) = B := by rw [h]; rfl
  unfold yrB
  rw [e]
  split
  · exact ⟨rfl, rfl, h⟩
  · exact ⟨rfl, rfl, h⟩
theorem yrs_stay {S : Sp} {y j : Nat} {ds : Nat → Bool} {P B : Bx} (h : goB (yrs S y ds P B j) = false) : ∀ k, yrs S y ds P B (j + k) 9 = yrs S y ds P B j 9 ∧ yrs S y ds P B (j + k) 2 = yrs S y ds P B j 2 ∧ goB (yrs S y ds P B (j + k)) = false
  | 0 => ⟨rfl, rfl, h⟩
  | k + 1 => by
    obtain ⟨a, b, c⟩ := yrs_stay h k
    obtain ⟨a2, b2, c2⟩ := yr_stay (S := S) (y := y + (j + k)) (d := ds (j + k)) (P := P) c
    exact ⟨a2.trans a, b2.trans b, c2⟩
/-- laughter more of a box -/
noncomputable def gnB (S : Sp) (d : Bool) (P B : Bx) (K : Nat) : Nat := yrs S (S 0 4) (fun _ => d) P B K 9 - B 9
theorem laugh_ex {S : Sp} {t Y K : Nat} {d : Bool} {B P : Bx} {c m : Hp} (w0 : wfNow S) (w : wfLaws S) (hN : nowC S c) (hT : toldC S t c) (hL : lawC S t c) (hM : lawM S m) (hY : Y + K ≤ 12000) (wb : wfB Y B P) (h : bxC B P 51 c) (h8 : c.1 51 8 = nI (B 9)) : ∃ c', f11_laughterOnTrial (nI K) (bI d) c = some (nI (gnB S d P B K), c') ∧ fr51 c c' := by
  have hn := w0.1
  have hkd := kd10 hT.2.1
  simp only [f11_laughterOnTrial, lt, h8, f11_laughterOnTrial_11]
  have key : ∀ (n j : Nat) (h1 : Hp), j + n = K → bxC (yrs S (S 0 4) (fun _ => d) P B j) P 51 h1 → h1.1 51 8 = nI (yrs S (S 0 4) (fun _ => d) P B j 9) → fr51 c h1 → ∃ c', lp (fun z : Int32 × Hp => f11_laughterOnTrial_11_s (nI K) (bI d) (nI (B 9)) z.1 z.2) (nI j, h1) = some (nI (gnB S d P B K), c') ∧ fr51 c c' := by
    intro n
    induction n with
    | zero =>
      intro j h1 hj hx h9 fx
      have hj : j = K := by omega
      subst hj
      refine ⟨h1, ?_, fx⟩
      refine lp_inr (o := some _) ?_
      simp only [f11_laughterOnTrial_11_s, f11_laughterOnTrial_59, nI_le (Nat.le_refl j) (show j < 2 ^ 31 by omega), if_true, h9, pk_sub (yrs_9 j), gnB]
    | succ n ih =>
      intro j h1 hj hx h9 fx
      have wj := wf_yrs (S := S) (y0 := S 0 4) (ds := fun _ => d) wb j
      have eg := letGo_is wj hx
      cases hg : goB (yrs S (S 0 4) (fun _ => d) P B j) with
      | false =>
        rw [hg] at eg
        obtain ⟨s9, -, -⟩ := yrs_stay hg (K - j)
        rw [show j + (K - j) = K by omega] at s9
        refine ⟨h1, ?_, fx⟩
        refine lp_inr (o := some _) ?_
        have eg : f0_isLetGo 51 h1 = some 0 := eg
        simp only [f11_laughterOnTrial_11_s, f11_laughterOnTrial_59, nI_ge (show j < K by omega) (show K < 2 ^ 31 by omega), if_false, eg, Option.bind_some, if_true, h9, pk_sub (yrs_9 j), gnB, s9]
      | true =>
        rw [hg] at eg
        have eg : f0_isLetGo 51 h1 = some 1 := eg
        have T1 := hT.fr hn fx.fr
        have N1 := hN.fr w0 fx.fr
        obtain ⟨c2, e2, x2, f2, l2⟩ := trialYear (y := S 0 4 + j) (d := d) (lf := 1) w (hL.f fx.fr) hM (show Y + j ≤ 12000 by omega) (by omega) wj hx
        obtain ⟨c', e', f'⟩ := ih (j + 1) c2 (by omega) x2 (l2 rfl h9) (fx.tr f2)
        refine ⟨c', ?_, f'⟩
        refine (lp_inl (f := fun z : Int32 × Hp => f11_laughterOnTrial_11_s (nI K) (bI d) (nI (B 9)) z.1 z.2) (s := (nI j, h1)) (s' := (nI (j + 1), c2)) ?_).trans e'
        have e2 : f0_goOneYear 51 (t + 14) (nI (S 0 4 + j)) (bI d) 1 h1 = some c2 := e2
        simp only [f11_laughterOnTrial_11_s, nI_ge (show j < K by omega) (show K < 2 ^ 31 by omega), if_false, eg, Option.bind_some, one_ne, T1.1, gd, hkd, if_true, N1.2.1, nI_add, e2, nI_1]
  exact key K 0 c (by omega) h h8 fr51.rf
/-- the reference's trial is laid -/
def bzM (m : Hp) : Prop := ∀ b, b < 6 → bz (m.1 28 b) = true
theorem bzM.fr {m m' : Hp} (h : bzM m) (f : frM m m') : bzM m' := fun b hb => by rw [f.1 _ _ (by unfold scrM; omega)]; exact h b hb
theorem laid_ex {S : Sp} {m : Hp} (w0 : wfNow S) (hM : nowM S m) (hU : toldM S m) (lM : lawM S m) (hz : bzM m) : ∃ m', f12_layTried m = some m' ∧ frM m m' ∧ cxM S (S 0 0) (S 0 7) false false none m' ∧ (∀ b, b < S 0 0 → bxM (bxS S b) (psS S b) 1 b m') ∧ m'.1 30 1 = nI (S 0 4) ∧ m'.2.1 0 57 = lN (S 0 5) ∧ m'.1 0 60 = 0 ∧ m'.1 0 61 = 0 ∧ nowM S m' := by
  have hn := w0.1
  obtain ⟨m', e, f, o, o2, p58, p59, p60, p61, p62, p30, p31, pb⟩ := layTried_ex hz
  have N1 := hM.fr w0 f
  have U1 := hU.fr f
  refine ⟨m', e, f, ⟨lM.o (fun q k a b => o q k (by omega) (by omega) (by omega)), N1.1, p62, p58, p59, U1.2.2.2.1⟩, fun b hb => ?_, p30.trans hM.2.1, by rw [o2]; exact hM.2.2.1, p60, p61, N1⟩
  obtain ⟨b1, b2, b3, b4, b5, b6, b7, b8, b9⟩ := hM.2.2.2.2 b hb
  refine ⟨?_, ?_, ?_, ?_, ?_, ?_, ?_, fun k hk => ?_⟩
  · rw [o _ _ (by omega) (by omega) (by omega)]; exact b1
  · rw [pb 24 b (by omega) (by omega) (by omega)]; exact b3
  · rw [pb 25 b (by omega) (by omega) (by omega)]; exact b4
  · rw [pb 26 b (by omega) (by omega) (by omega)]; exact b5
  · rw [pb 27 b (by omega) (by omega) (by omega)]; exact b6
  · rw [if_pos p60, pb 28 b (by omega) (by omega) (by omega)]; exact b8
  · rw [if_pos p61, pb 29 b (by omega) (by omega) (by omega)]; exact b7
  · rw [o _ _ (by omega) (by omega) (by omega)]; exact b9 k hk
theorem frZ.m {s n : Nat} {g : Option Nat} {m m' : Hp} (h : frZ s n g m m') (hs : s = 1) (h57 : m'.2.1 0 57 = m.2.1 0 57) : frM m m' := by
  subst hs
  refine ⟨fun q k a => ?_, h57, h.2.1⟩
  unfold scrM at a
  exact h.1 q k (by omega) (by omega) (fun x y b hb hne e => by omega)
/-- the reference as it goes: K years from a laid trial -/
theorem wentM_ex {S : Sp} {t K : Nat} {c m : Hp} (w0 : wfNow S) (w1 : wfTold S) (w : wfLaws S) (hL : lawC S t c) (hM : nowM S m) (hU : toldM S m) (lM : lawM S m) (hz : bzM m) (hK : K ≤ 1000) : ∃ m1 m', f12_layTried m = some m1 ∧ f12_goMany (nI K) m1 = some m' ∧ frM m m' ∧ nowM S m' ∧ ∀ b, b < S 0 0 → bxM (yrs S (S 0 4) (fun _ => d50 S) (psS S b) (bxS S b) K) (psS S b) 1 b m' := by
  have hn := w0.1
  obtain ⟨m1, e1, f1, cx, hb, h30, h57, -, -, N1⟩ := laid_ex w0 hM hU lM hz
  obtain ⟨m', e2, i1, i2, i3, i4, i5⟩ := goMany_ex (t := t) (Y := S 0 4) (K := K) w hL cx hn (fun j h => by cases h) w1.2.2.2.1 w0.2.2.1 (by have := w0.2.1; omega) (fun b hbn _ => wf_bx w0 hbn) (fun b hbn _ => hb b hbn) h30 h57
  have f2 : frM m1 m' := i5.m rfl (by rw [i4, nmS_as w1.2.2.2.1, h57])
  refine ⟨m1, m', e1, e2, f1.tr f2, hM.fr w0 (f1.tr f2), fun b hbn => ?_⟩
  have := i1 b hbn (by intro h; cases h)
  rw [dsS_as w1.2.2.2.1] at this
  exact this
