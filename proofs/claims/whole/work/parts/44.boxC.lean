/-! One box, one year: the class's own. -/
theorem lawC.fr {S : Sp} {t p : Nat} {c c' : Hp} (h : lawC S t c) (hp : p < 55) (f : ∀ q k, q ≠ p → c'.1 q k = c.1 q k) : lawC S t c' := by
  obtain ⟨ht, h1, h2⟩ := h
  exact ⟨ht, fun i hi => ⟨(f _ _ (by omega)).trans (h1 i hi).1, (f _ _ (by omega)).trans (h1 i hi).2⟩, fun l hl => ⟨(f _ _ (by omega)).trans (h2 l hl).1, (f _ _ (by omega)).trans (h2 l hl).2⟩⟩
theorem lawC.s {S : Sp} {t : Nat} {c c' : Hp} (h : lawC S t c) (s : sC c c') : lawC S t c' := by
  obtain ⟨ht, h1, h2⟩ := h
  refine ⟨ht, fun i hi => ?_, fun l hl => ?_⟩
  · rw [s.1]; exact h1 i hi
  · rw [s.1]; exact h2 l hl
theorem bxC.s {B P : Bx} {p : Nat} {c c' : Hp} (h : bxC B P p c) (s : sC c c') : bxC B P p c' := by
  unfold bxC at *
  rw [s.1]; exact h
theorem placesHeard_eq {B P : Bx} {p Y : Nat} {c : Hp} (w : wfB Y B P) (h : bxC B P p c) : f0_placesHeard p c = some (nI (hmB B P)) := by
  obtain ⟨w1, w2, w3, w4, w6, w8, w9, wp⟩ := w
  obtain ⟨h1, h2, h3, h5, h6, h7, h8, h9⟩ := h
  unfold f0_placesHeard f0_placesHeard_4 hmB
  refine lp_for1 (f := fun z : Int32 × Int32 => f0_placesHeard_4_s p z.1 z.2 c) (fun i => (nI (cnt (fun k => decide (0 < hN (P k) (B 3) (B 4))) i), nI i)) 8 (fun i hi => ?_) ?_
  · have hb := hN_le (pin := P i) (fl := B 3) (ms := B 4)
    simp only [f0_placesHeard_4_s, f0_placesHeard_25, g8 hi, if_false, f0_heardWith_eq p i _ c hi, h9 i hi, h5, h7, hrd_nI (wp i hi) w3 w4, Option.bind_some, nI_1, cnt]
    by_cases q : 0 < hN (P i) (B 3) (B 4)
    · have q2 : ¬ nI (hN (P i) (B 3) (B 4)) ≤ 0 := nI_nle q (by omega)
      simp only [q, q2, decide_true, if_true, if_false]
    · have q2 : nI (hN (P i) (B 3) (B 4)) ≤ 0 := by rw [show hN (P i) (B 3) (B 4) = 0 by omega]; decide
      simp only [q, q2, decide_false, if_true, Bool.false_eq_true, if_false, Nat.add_zero]
  · simp only [f0_placesHeard_4_s, l8, if_true]
theorem letGo_C {S : Sp} {t p y Y lf : Nat} {B P : Bx} {c m : Hp} (w : wfLaws S) (hL : lawC S t c) (hM : lawM S m) (hp : p < 55) (hY : Y ≤ 12000) (hlf : lf ≤ 1) (wb : wfB Y B P) (h : bxC B P p c) : ∃ c', f0_letGo p (t + 14) (nI y) (nI lf) c = some c' ∧ bxC (letB S y P B) P p c' ∧ (∀ q k, q ≠ p → c'.1 q k = c.1 q k) ∧ c'.2.2 = c.2.2 ∧ c'.1 p 1 = c.1 p 1 ∧ c'.1 p 4 = c.1 p 4 ∧ (lf = 1 → c.1 p 8 = nI (B 9) → c'.1 p 8 = nI (letB S y P B 9)) := by
  obtain ⟨w1, w2, w3, w4, w6, w8, w9, wp⟩ := wb
  obtain ⟨h1, h2, h3, h5, h6, h7, h8, h9⟩ := h
  generalize hB1 : (fun z => if z = 8 then B 8 + 1 else B z : Bx) = B1
  have b8 : B1 8 = B 8 + 1 := by rw [← hB1]; rfl
  have bo : ∀ z, z ≠ 8 → B1 z = B z := fun z hz => by rw [← hB1]; exact if_neg hz
  have wb1 : wfB (Y + 1) B1 P := ⟨by rw [bo 1 (by omega)]; exact w1, by rw [bo 2 (by omega)]; exact w2, by rw [bo 3 (by omega)]; exact w3, by rw [bo 4 (by omega)]; exact w4, by rw [bo 6 (by omega)]; exact w6, by rw [b8]; omega, by rw [bo 9 (by omega)]; omega, wp⟩
  have hm1 : hmB B1 P = hmB B P := by unfold hmB; rw [bo 3 (by omega), bo 4 (by omega)]
  obtain ⟨c1, e1⟩ : ∃ c1, c1 = wI c p 7 (nI (B 8 + 1)) := ⟨_, rfl⟩
  have f1 : ∀ q k, ¬ (q = p ∧ k = 7) → c1.1 q k = c.1 q k := fun q k n => by rw [e1]; exact wI_o n
  have h1' : bxC B1 P p c1 := by
    refine ⟨?_, ?_, ?_, ?_, ?_, ?_, ?_, fun k hk => ?_⟩
    · rw [bo 1 (by omega), f1 _ _ (by omega)]; exact h1
    · rw [f1 _ _ (by omega)]; exact h2
    · rw [bo 2 (by omega), f1 _ _ (by omega)]; exact h3
    · rw [bo 3 (by omega), f1 _ _ (by omega)]; exact h5
    · rw [b8, e1, wI_s]
    · rw [bo 4 (by omega), f1 _ _ (by omega)]; exact h7
    · rw [bo 6 (by omega), f1 _ _ (by omega)]; exact h8
    · rw [f1 _ _ (by omega)]; exact h9 k hk
  have L1 : lawC S t c1 := hL.fr hp (fun q k n => f1 q k (fun z => n z.1))
  have fin : ∀ (c2 : Hp), lawC S t c2 → bxC B1 P p c2 → ∃ c', f0_letGo_55 p (t + 14) (nI y) c2 = some c' ∧ bxC (letB S y P B) P p c' ∧ (∀ q k, ¬ (q = p ∧ k = 5) → c'.1 q k = c2.1 q k) ∧ c'.2.2 = c2.2.2 := by
    intro c2 L2 x2
    obtain ⟨c3, e3, s3, v3⟩ := worthC w L2 hM (show 0 < 3 by omega) (envC_of (y := y) (by rw [bo 4 (by omega)]; exact w4) x2) (fun j _ => nmB_bnd _ _ _ j)
    have x3 := x2.s s3
    have hsp : c3.1 p 5 = nI (B 2) := by rw [x3.2.2.1, bo 2 (by omega)]
    have hlt : ∀ less, less ≤ 9 → ∃ c', f0_letGo_90 (nI less) (c3.1 p 5) 0 p c3 = some c' ∧ c' = wI c3 p 5 (nI (B 2 - less)) := by
      intro less hl9
      refine ⟨_, rfl, ?_⟩
      rw [hsp]
      by_cases q : less < B 2
      · rw [pk_sub (by omega), if_pos (by rw [show (0 : Int32) = nI 0 from rfl]; exact nI_lt (by omega) (by omega))]
      · have z : B 2 - less = 0 := by omega
        rw [z]
        by_cases q2 : less = B 2
        · subst q2
          rw [pk_sub (Nat.le_refl _), Nat.sub_self]
          rfl
        · have : nI (B 2) - nI less < 0 := pk_sneg (by omega) (by omega)
          rw [if_neg (fun q3 => absurd (Int32.lt_trans this q3) (Int32.lt_irrefl))]
          rfl
    have hle : bl (evL S 0 (nmB B1 (pcN P) y)) 1 9 ≤ 9 := bl_le (by omega) (by omega)
    obtain ⟨c', ec, ed⟩ := hlt _ hle
    refine ⟨c', ?_, ?_, fun q k n => ?_, ?_⟩
    · have e3' : f5_worth (t + 14) 0 p (nI y) c2 = some (evL S 0 (nmB B1 (pcN P) y), c3) := e3
      simp only [f0_letGo_55, e3', Option.bind_some, lg_cmp_eq]
      unfold bl at ec
      by_cases q : evL S 0 (nmB B1 (pcN P) y) = -9223372036854775808
      · rw [if_pos q] at ec ⊢; exact ec
      · rw [if_neg q] at ec ⊢
        rw [show (9 : Int32) = nI 9 from rfl, hold_eq _ (by omega), Option.bind_some]; exact ec
    · obtain ⟨y1, y2, y3, y5, y6, y7, y8, y9⟩ := x3
      have lo : ∀ z, z ≠ 8 → z ≠ 9 → z ≠ 2 → letB S y P B z = B z := fun z a b d => by unfold letB; rw [if_neg a, if_neg b, if_neg d]
      have l2 : letB S y P B 2 = B 2 - bl (evL S 0 (nmB B1 (pcN P) y)) 1 9 := by rw [← hB1]; rfl
      have l8 : letB S y P B 8 = B 8 + 1 := rfl
      rw [ed]
      refine ⟨?_, ?_, ?_, ?_, ?_, ?_, ?_, fun k hk => ?_⟩
      · rw [lo 1 (by omega) (by omega) (by omega), wI_o (by omega), y1, bo 1 (by omega)]
      · rw [wI_o (by omega), y2]
      · rw [wI_s, l2]
      · rw [lo 3 (by omega) (by omega) (by omega), wI_o (by omega), y5, bo 3 (by omega)]
      · rw [l8, wI_o (by omega), y6, b8]
      · rw [lo 4 (by omega) (by omega) (by omega), wI_o (by omega), y7, bo 4 (by omega)]
      · rw [lo 6 (by omega) (by omega) (by omega), wI_o (by omega), y8, bo 6 (by omega)]
      · rw [wI_o (by omega), y9 k hk]
    · rw [ed, wI_o n, s3.1]
    · rw [ed]; exact s3.2
  have e7 : c.1 p 7 + 1 = nI (B 8 + 1) := by rw [h6, nI_1]
  have hlf' : lf = 0 ∨ lf = 1 := by omega
  rcases hlf' with rfl | rfl
  · obtain ⟨c', a1, a2, a3, a4⟩ := fin c1 L1 h1'
    refine ⟨c', ?_, a2, fun q k n => ?_, ?_, ?_, ?_, fun z => by omega⟩
    · simp only [f0_letGo, lt, e7, ← e1, show (nI 0 : Int32) = 0 from rfl, if_true]; exact a1
    · rw [a3 q k (by omega), f1 q k (by omega)]
    · rw [a4, e1]; rfl
    · rw [a3 _ _ (by omega), f1 _ _ (by omega)]
    · rw [a3 _ _ (by omega), f1 _ _ (by omega)]
  · obtain ⟨c2, e2, s2, v2⟩ := worthC w L1 hM (show 2 < 3 by omega) (envC_of (y := y) (by rw [bo 4 (by omega)]; exact w4) h1') (fun j _ => nmB_bnd _ _ _ j)
    have x2 := h1'.s s2
    have L2 := L1.s s2
    obtain ⟨c3, e3⟩ : ∃ c3, c3 = wI c2 p 8 (c2.1 p 8 + nI (bl (evL S 2 (nmB B1 (pcN P) y)) (hmB B1 P) 99)) := ⟨_, rfl⟩
    have f3 : ∀ q k, ¬ (q = p ∧ k = 8) → c3.1 q k = c2.1 q k := fun q k n => by rw [e3]; exact wI_o n
    have x3 : bxC B1 P p c3 := by
      obtain ⟨y1, y2, y3, y5, y6, y7, y8, y9⟩ := x2
      refine ⟨?_, ?_, ?_, ?_, ?_, ?_, ?_, fun k hk => ?_⟩
      · rw [f3 _ _ (by omega)]; exact y1
      · rw [f3 _ _ (by omega)]; exact y2
      · rw [f3 _ _ (by omega)]; exact y3
      · rw [f3 _ _ (by omega)]; exact y5
      · rw [f3 _ _ (by omega)]; exact y6
      · rw [f3 _ _ (by omega)]; exact y7
      · rw [f3 _ _ (by omega)]; exact y8
      · rw [f3 _ _ (by omega)]; exact y9 k hk
    have L3 : lawC S t c3 := L2.fr hp (fun q k n => f3 q k (fun z => n z.1))
    obtain ⟨c', a1, a2, a3, a4⟩ := fin c3 L3 x3
    refine ⟨c', ?_, a2, fun q k n => ?_, ?_, ?_, ?_, fun _ h9 => ?_⟩
    · have e2' : f5_worth (t + 14) 2 p (nI y) c1 = some (evL S 2 (nmB B1 (pcN P) y), c2) := e2
      simp only [f0_letGo, lt, e7, ← e1, show ¬ ((nI 1 : Int32) = 0) from by decide, if_false, e2', Option.bind_some, lg_cmp_eq]
      unfold bl at e3
      by_cases q : evL S 2 (nmB B1 (pcN P) y) = -9223372036854775808
      · rw [if_pos q] at e3 ⊢
        rw [placesHeard_eq wb1 x2, Option.bind_some]
        simp only [f0_letGo_51, lt, ← e3]; exact a1
      · rw [if_neg q] at e3 ⊢
        rw [show (99 : Int32) = nI 99 from rfl, hold_eq _ (by omega), Option.bind_some]
        simp only [f0_letGo_51, lt, ← e3]; exact a1
    · rw [a3 q k (by omega), f3 q k (by omega), s2.1, f1 q k (by omega)]
    · rw [a4, e3]
      show c2.2.2 = _
      rw [s2.2, e1]; rfl
    · rw [a3 _ _ (by omega), f3 _ _ (by omega), s2.1, f1 _ _ (by omega)]
    · rw [a3 _ _ (by omega), f3 _ _ (by omega), s2.1, f1 _ _ (by omega)]
    · rw [a3 _ _ (by omega), e3, wI_s, s2.1, f1 _ _ (by omega), h9, nI_add, hm1]
      have : letB S y P B 9 = B 9 + bl (evL S 2 (nmB B1 (pcN P) y)) (hmB B P) 99 := by rw [← hB1]; rfl
      rw [this]
theorem grow_C {S : Sp} {t p y Y : Nat} {B P : Bx} {c m : Hp} (w : wfLaws S) (hL : lawC S t c) (hM : lawM S m) (wb : wfB Y B P) (h : bxC B P p c) : ∃ c', f0_growFalse p (t + 14) (nI y) c = some c' ∧ bxC (growB S y P B) P p c' ∧ (∀ q k, ¬ (q = p ∧ k = 6) → c'.1 q k = c.1 q k) ∧ c'.2.2 = c.2.2 := by
  obtain ⟨w1, w2, w3, w4, w6, w8, w9, wp⟩ := wb
  obtain ⟨c3, e3, s3, v3⟩ := worthC w hL hM (show 1 < 3 by omega) (envC_of (y := y) w4 h) (fun j _ => nmB_bnd _ _ _ j)
  have x3 := h.s s3
  obtain ⟨y1, y2, y3, y5, y6, y7, y8, y9⟩ := x3
  have hle : bl (evL S 1 (nmB B (pcN P) y)) 1 9 ≤ 9 := bl_le (by omega) (by omega)
  have g3 : growB S y P B 3 = min 99 (B 3 + bl (evL S 1 (nmB B (pcN P) y)) 1 9) := rfl
  have go : ∀ z, z ≠ 3 → growB S y P B z = B z := fun z hz => if_neg hz
  have ew : ∀ k, k ≤ 9 → f0_growFalse_33 (nI k) (c3.1 p 6) 99 p c3 = some (wI c3 p 6 (nI (min 99 (B 3 + k)))) := by
    intro k hk
    simp only [f0_growFalse_33, lt, y5, nI_add]
    congr 2
    rw [show (99 : Int32) = nI 99 from rfl]
    by_cases q : B 3 + k < 99
    · rw [if_pos (nI_lt q (by omega))]; congr 1; omega
    · rw [if_neg (nI_nlt (by omega) (by omega))]; congr 1; omega
  refine ⟨wI c3 p 6 (nI (min 99 (B 3 + bl (evL S 1 (nmB B (pcN P) y)) 1 9))), ?_, ?_, fun q k n => ?_, s3.2⟩
  · have e3' : f5_worth (t + 14) 1 p (nI y) c = some (evL S 1 (nmB B (pcN P) y), c3) := e3
    rw [← ew _ hle]
    simp only [f0_growFalse, e3', Option.bind_some, lg_cmp_eq]
    unfold bl
    by_cases q : evL S 1 (nmB B (pcN P) y) = -9223372036854775808
    · rw [if_pos q, if_pos q]; rfl
    · rw [if_neg q, if_neg q, show (9 : Int32) = nI 9 from rfl, hold_eq _ (by omega), Option.bind_some]
  · refine ⟨?_, ?_, ?_, ?_, ?_, ?_, ?_, fun k hk => ?_⟩
    · rw [go 1 (by omega), wI_o (by omega)]; exact y1
    · rw [wI_o (by omega)]; exact y2
    · rw [go 2 (by omega), wI_o (by omega)]; exact y3
    · rw [wI_s, g3]
    · rw [go 8 (by omega), wI_o (by omega)]; exact y6
    · rw [go 4 (by omega), wI_o (by omega)]; exact y7
    · rw [go 6 (by omega), wI_o (by omega)]; exact y8
    · rw [wI_o (by omega)]; exact y9 k hk
  · rw [wI_o n, s3.1]
theorem letGo_is {B P : Bx} {p Y : Nat} {c : Hp} (w : wfB Y B P) (h : bxC B P p c) : f0_isLetGo p c = some (if goB B = true then 1 else 0) := by
  obtain ⟨w1, w2, w3, w4, w6, w8, w9, wp⟩ := w
  obtain ⟨b1, b2, b4, b5, b6, b7, b9, b10⟩ := h
  simp only [f0_isLetGo, f0_isLetGo_18, b4, b9]
  simp (disch := omega) only [lit, nI_eq, nI_leI, goB, decide_eq_true_eq]
  by_cases e : B 6 = 0
  · by_cases e2 : B 2 ≤ 0
    · rw [if_pos e, if_pos e2, if_neg (by omega)]
    · rw [if_pos e, if_neg e2, if_pos (by omega)]
  · rw [if_neg e, if_neg (by omega)]
def bI (b : Bool) : Int32 := if b then 1 else 0
/-- one year of one box of the class -/
theorem year_C {S : Sp} {t p y Y lf : Nat} {d : Bool} {B P : Bx} {c m : Hp} (w : wfLaws S) (hL : lawC S t c) (hM : lawM S m) (hp : p < 55) (hY : Y ≤ 12000) (hlf : lf ≤ 1) (wb : wfB Y B P) (h : bxC B P p c) : ∃ c', f0_goOneYear p (t + 14) (nI y) (bI d) (nI lf) c = some c' ∧ bxC (yrB S y d P B) P p c' ∧ (∀ q k, q ≠ p → c'.1 q k = c.1 q k) ∧ c'.2.2 = c.2.2 ∧ c'.1 p 1 = c.1 p 1 ∧ c'.1 p 4 = c.1 p 4 ∧ (lf = 1 → c.1 p 8 = nI (B 9) → c'.1 p 8 = nI (yrB S y d P B 9)) := by
  have st : ∃ c1, (f0_isLetGo p c).bind (fun r1 => if r1 = 0 then f0_goOneYear_15 p (t + 14) (nI y) (bI d) c else (f0_letGo p (t + 14) (nI y) (nI lf) c).bind fun h5 => f0_goOneYear_15 p (t + 14) (nI y) (bI d) h5) = f0_goOneYear_15 p (t + 14) (nI y) (bI d) c1 ∧ bxC (if goB B then letB S y P B else B) P p c1 ∧ (∀ q k, q ≠ p → c1.1 q k = c.1 q k) ∧ c1.2.2 = c.2.2 ∧ c1.1 p 1 = c.1 p 1 ∧ c1.1 p 4 = c.1 p 4 ∧ (lf = 1 → c.1 p 8 = nI (B 9) → c1.1 p 8 = nI ((if goB B then letB S y P B else B) 9)) := by
    rw [letGo_is wb h, Option.bind_some]
    by_cases q : goB B = true
    · obtain ⟨c1, a1, a2, a3, a4, a5, a6, a7⟩ := letGo_C w hL hM hp hY hlf wb h (y := y)
      rw [if_pos q, if_neg (by decide), if_pos q, a1, Option.bind_some]
      exact ⟨c1, rfl, a2, a3, a4, a5, a6, a7⟩
    · rw [if_neg q, if_pos rfl, if_neg q]
      exact ⟨c, rfl, h, fun _ _ _ => rfl, rfl, rfl, rfl, fun _ z => z⟩
  obtain ⟨c1, e1, x1, f1, g1, n1, k1, l1⟩ := st
  have L1 : lawC S t c1 := hL.fr hp f1
  have w1 : wfB (Y + 1) (if goB B then letB S y P B else B) P := by
    split
    · exact wf_let wb
    · exact wb.mono (by omega)
  cases d with
  | false =>
    refine ⟨c1, ?_, x1, f1, g1, n1, k1, l1⟩
    unfold f0_goOneYear
    rw [e1]; rfl
  | true =>
    obtain ⟨c2, a1, a2, a3, a4⟩ := grow_C w L1 hM w1 x1 (y := y)
    refine ⟨c2, ?_, a2, fun q k n => ?_, a4.trans g1, ?_, ?_, fun z z2 => ?_⟩
    · unfold f0_goOneYear
      rw [e1]
      unfold f0_goOneYear_15
      rw [if_neg (by decide), a1]; rfl
    · rw [a3 q k (fun z => n z.1)]; exact f1 q k n
    · rw [a3 _ _ (by omega)]; exact n1
    · rw [a3 _ _ (by omega)]; exact k1
    · rw [a3 _ _ (by omega)]; exact l1 z z2
