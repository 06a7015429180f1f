/-! years: the class's shelf. -/
def frW (c c' : Hp) : Prop := (∀ q k, ¬ (q = 6 ∧ 2 ≤ k ∧ k ≤ 4) → ¬ ((8 ≤ q ∧ q ≤ 19) ∧ ¬ k = 1 ∧ ¬ k = 4) → c'.1 q k = c.1 q k) ∧ c'.2.2 = c.2.2
theorem frW.rf {c : Hp} : frW c c := ⟨fun _ _ _ _ => rfl, rfl⟩
theorem frW.tr {a b c : Hp} (h : frW a b) (h' : frW b c) : frW a c := ⟨fun q k n n2 => (h'.1 q k n n2).trans (h.1 q k n n2), h'.2.trans h.2⟩
theorem lawC.w {S : Sp} {t : Nat} {c c' : Hp} (h : lawC S t c) (f : frW c c') : lawC S t c' := by
  obtain ⟨ht, h1, h2⟩ := h
  exact ⟨ht, fun i hi => ⟨(f.1 _ _ (by omega) (by omega)).trans (h1 i hi).1, (f.1 _ _ (by omega) (by omega)).trans (h1 i hi).2⟩, fun l hl => ⟨(f.1 _ _ (by omega) (by omega)).trans (h2 l hl).1, (f.1 _ _ (by omega) (by omega)).trans (h2 l hl).2⟩⟩
theorem toldC.w {S : Sp} {t : Nat} {c c' : Hp} (h : toldC S t c) (f : frW c c') : toldC S t c' := by
  obtain ⟨h1, h2, h3, h4, h5, h6, h7, h8, h9⟩ := h
  refine ⟨by rw [f.2]; exact h1, h2, (f.1 _ _ (by omega) (by omega)).trans h3, (f.1 _ _ (by omega) (by omega)).trans h4, (f.1 _ _ (by omega) (by omega)).trans h5, (f.1 _ _ (by omega) (by omega)).trans h6, (f.1 _ _ (by omega) (by omega)).trans h7, fun i hi => (f.1 _ _ (by omega) (by omega)).trans (h8 i hi), fun g hg => ?_⟩
  exact ⟨(f.1 _ _ (by omega) (by omega)).trans (h9 g hg).1, (f.1 _ _ (by omega) (by omega)).trans (h9 g hg).2.1, (f.1 _ _ (by omega) (by omega)).trans (h9 g hg).2.2⟩
theorem bxC.k {B P : Bx} {p : Nat} {c c' : Hp} (h : bxC B P p c) (f : ∀ k, c'.1 p k = c.1 p k) (g : ∀ k, c'.1 (p + 1) k = c.1 (p + 1) k) : bxC B P p c' := by
  obtain ⟨h1, h2, h3, h5, h6, h7, h8, h9⟩ := h
  exact ⟨(f _).trans h1, (f _).trans h2, (f _).trans h3, (f _).trans h5, (f _).trans h6, (f _).trans h7, (f _).trans h8, fun k hk => (g _).trans (h9 k hk)⟩
/-- the boxes of the shelf -/
def bsC (n : Nat) (Bs Ps : Nat → Bx) (c : Hp) : Prop := ∀ b, b < n → bxC (Bs b) (Ps b) (8 + 2 * b) c ∧ c.1 (8 + 2 * b) 8 = nI (Bs b 9)
theorem shelfBoxes {S : Sp} {t y Y n : Nat} {d : Bool} {Bs Ps : Nat → Bx} {c m : Hp} (w : wfLaws S) (hL : lawC S t c) (hM : lawM S m) (hn : n ≤ 6) (hY : Y ≤ 12000) (h1 : c.1 6 1 = nI n) (h2 : c.1 6 2 = nI y) (wb : ∀ b, b < n → wfB Y (Bs b) (Ps b)) (hb : bsC n Bs Ps c) : ∃ c', f9_goOneYear_29 6 t (bI d) 0 c = f9_goOneYear_62 6 (bI d) c' ∧ bsC n (fun b => yrB S y d (Ps b) (Bs b)) Ps c' ∧ frW c c' ∧ ∀ k, c'.1 6 k = c.1 6 k := by
  unfold f9_goOneYear_29
  obtain ⟨⟨x, c1⟩, e, e1, hx, fx, gx⟩ := lp_walk (f := fun z : Int32 × Hp => f9_goOneYear_29_s 6 t (bI d) z.1 z.2) (fun i z => z.1 = nI i ∧ bsC n (fun b => if b < i then yrB S y d (Ps b) (Bs b) else Bs b) Ps z.2 ∧ frW c z.2 ∧ ∀ k, z.2.1 6 k = c.1 6 k) n (0, c) ⟨rfl, fun b hbn => by
      show bxC (if b < 0 then _ else Bs b) (Ps b) _ c ∧ _ = nI ((if b < 0 then _ else Bs b) 9)
      rw [if_neg (by omega)]; exact hb b hbn, frW.rf, fun _ => rfl⟩ (fun i z hi hI => by
    obtain ⟨x, c1⟩ := z
    dsimp only at hI
    obtain ⟨rfl, hx, fx, gx⟩ := hI
    have bi := hx i hi
    dsimp only at bi
    rw [if_neg (Nat.lt_irrefl i)] at bi
    obtain ⟨c2, a1, a2, a3, a4, a5, a6, a7⟩ := year_C w (hL.w fx) hM (show 8 + 2 * i < 55 by omega) hY (show 1 ≤ 1 by omega) (wb i hi) bi.1 (y := y) (d := d)
    have a1 : f0_goOneYear (8 + 2 * i) (t + 14) (nI y) (bI d) 1 c1 = some c2 := a1
    refine ⟨(nI (i + 1), c2), ?_, rfl, fun b hbn => ?_, fx.tr ⟨fun q k n1 n2 => ?_, a4⟩, fun k => (a3 _ _ (by omega)).trans (gx k)⟩
    · simp only [f9_goOneYear_29_s, gx, h1, h2, nI_ge hi (show n < 2 ^ 31 by omega), if_false, gd, inb_t (show i < 6 by omega) (by omega), if_true, ix_nI (show i < 2 ^ 31 by omega), a1, Option.bind_some, nI_1]
    · show bxC (if b < i + 1 then yrB S y d (Ps b) (Bs b) else Bs b) (Ps b) (8 + 2 * b) c2 ∧ c2.1 (8 + 2 * b) 8 = nI ((if b < i + 1 then yrB S y d (Ps b) (Bs b) else Bs b) 9)
      by_cases zz : b = i
      · subst zz
        rw [if_pos (by omega)]
        exact ⟨a2, a7 rfl bi.2⟩
      · have hh := hx b hbn
        dsimp only at hh
        have h3 : bxC (if b < i then yrB S y d (Ps b) (Bs b) else Bs b) (Ps b) (8 + 2 * b) c2 := hh.1.k (fun k => a3 _ _ (by omega)) (fun k => a3 _ _ (by omega))
        have h4 : c2.1 (8 + 2 * b) 8 = nI ((if b < i then yrB S y d (Ps b) (Bs b) else Bs b) 9) := (a3 _ _ (by omega)).trans hh.2
        by_cases z2 : b < i
        · rw [if_pos z2] at h3 h4; rw [if_pos (by omega)]; exact ⟨h3, h4⟩
        · rw [if_neg z2] at h3 h4; rw [if_neg (by omega)]; exact ⟨h3, h4⟩
    · by_cases hq : q = 8 + 2 * i
      · have hk : k = 1 ∨ k = 4 := by omega
        rw [hq]
        rcases hk with rfl | rfl
        · exact a5
        · exact a6
      · exact a3 q k hq)
  dsimp only at e1 hx fx gx
  subst e1
  refine ⟨c1, ?_, fun b hbn => ?_, fx, gx⟩
  · rw [e]
    refine lp_inr ?_
    simp only [f9_goOneYear_29_s, gx, h1, nI_le (Nat.le_refl n) (show n < 2 ^ 31 by omega), if_true]
  · have := hx b hbn
    dsimp only at this
    rw [if_pos hbn] at this
    exact this
theorem shelfYear {S : Sp} {t y Y n num : Nat} {Bs Ps : Nat → Bx} {c m : Hp} (w1 : wfTold S) (w : wfLaws S) (hT : toldC S t c) (hL : lawC S t c) (hM : lawM S m) (hn : n ≤ 6) (hY : Y ≤ 12000) (hnum : num < 2 ^ 31) (h1 : c.1 6 1 = nI n) (h2 : c.1 6 2 = nI y) (h3 : c.1 6 3 = nI num) (wb : ∀ b, b < n → wfB Y (Bs b) (Ps b)) (hb : bsC n Bs Ps c) : ∃ c', f9_goOneYear 6 t c = some c' ∧ bsC n (fun b => yrB S y (dmpS (S 0 7) false true num).1 (Ps b) (Bs b)) Ps c' ∧ c'.1 6 1 = nI n ∧ c'.1 6 2 = nI (y + 1) ∧ c'.1 6 3 = nI (dmpS (S 0 7) false true num).2 ∧ c'.1 6 4 = c.1 6 4 + bI (dmpS (S 0 7) false true num).1 ∧ frW c c' := by
  have hb7 : ∀ {h : Hp} {k : Nat} {v : Int32}, bsC n Bs Ps h → bsC n Bs Ps (wI h 6 k v) := fun {h k v} hh b hbn => ⟨(hh b hbn).1.k (fun j => wI_o (by omega)) (fun j => wI_o (by omega)), (wI_o (by omega)).trans (hh b hbn).2⟩
  -- the number
  have st : ∃ c1, f9_goOneYear 6 t c = f9_goOneYear_18 6 t c1 ∧ c1.1 6 3 = nI (dmpS (S 0 7) false true num).2 ∧ (∀ q k, ¬ (q = 6 ∧ k = 3) → c1.1 q k = c.1 q k) ∧ c1.2 = c.2 ∧ bsC n Bs Ps c1 := by
    unfold f9_goOneYear
    rw [isDrawn_eq w1 hT, Option.bind_some, h3, nxt_I hnum, dmp_dr w1.2.2.2.1]
    cases drw (S 0 7) with
    | false => exact ⟨c, rfl, h3, fun _ _ _ => rfl, rfl, hb⟩
    | true => exact ⟨wI c 6 3 (nI (nxt num)), rfl, wI_s, fun q k n => wI_o n, rfl, hb7 hb⟩
  obtain ⟨c1, e1, k3, o1, o2, b1⟩ := st
  have f1 : frW c c1 := ⟨fun q k n1 n2 => o1 q k (by omega), by rw [o2]⟩
  have T1 := hT.w f1
  have ee := damp_eq w1 T1 hnum
  generalize hd : (dmpS (S 0 7) false true num).1 = d at *
  generalize hN : (dmpS (S 0 7) false true num).2 = num' at *
  obtain ⟨c2, e2, b2, f2, g2⟩ := shelfBoxes (d := d) w (hL.w f1) hM hn hY ((o1 _ _ (by omega)).trans h1) ((o1 _ _ (by omega)).trans h2) wb b1
  have v1 : c2.1 6 1 = nI n := (g2 _).trans ((o1 _ _ (by omega)).trans h1)
  have v2 : c2.1 6 2 = nI y := (g2 _).trans ((o1 _ _ (by omega)).trans h2)
  have v3 : c2.1 6 3 = nI num' := (g2 _).trans k3
  have v4 : c2.1 6 4 = c.1 6 4 := (g2 _).trans (o1 _ _ (by omega))
  have hb8 : ∀ {h : Hp} {k : Nat} {v : Int32}, bsC n (fun b => yrB S y d (Ps b) (Bs b)) Ps h → bsC n (fun b => yrB S y d (Ps b) (Bs b)) Ps (wI h 6 k v) := fun {h k v} hh b hbn => ⟨(hh b hbn).1.k (fun j => wI_o (by omega)) (fun j => wI_o (by omega)), (wI_o (by omega)).trans (hh b hbn).2⟩
  have f12 := f1.tr f2
  cases d with
  | false =>
    have ee : f10_isDampBy t (nI num') c1 = some 0 := ee
    have e2 : f9_goOneYear_29 6 t 0 0 c1 = f9_goOneYear_62 6 0 c2 := e2
    refine ⟨wI c2 6 2 (nI (y + 1)), ?_, hb8 b2, (wI_o (by omega)).trans v1, wI_s, (wI_o (by omega)).trans v3, ?_, f12.tr ⟨fun q k n1 n2 => wI_o (by omega), rfl⟩⟩
    · rw [e1]
      simp only [f9_goOneYear_18, k3, ee, Option.bind_some, e2, f9_goOneYear_62, f9_goOneYear_76, bI, Bool.false_eq_true, if_false, if_true, lt, v2, nI_1]
    · rw [wI_o (by omega), v4]
      show c.1 6 4 = c.1 6 4 + 0
      rw [Int32.add_zero]
  | true =>
    have ee : f10_isDampBy t (nI num') c1 = some 1 := ee
    have e2 : f9_goOneYear_29 6 t 1 0 c1 = f9_goOneYear_62 6 1 c2 := e2
    have v2' : (wI c2 6 4 (c.1 6 4 + 1)).1 6 2 = nI y := (wI_o (by omega)).trans v2
    refine ⟨wI (wI c2 6 4 (c.1 6 4 + 1)) 6 2 (nI (y + 1)), ?_, hb8 (hb8 b2), (wI_o (by omega)).trans ((wI_o (by omega)).trans v1), wI_s, (wI_o (by omega)).trans ((wI_o (by omega)).trans v3), ?_, f12.tr ⟨fun q k n1 n2 => (wI_o (by omega)).trans (wI_o (by omega)), rfl⟩⟩
    · rw [e1]
      simp only [f9_goOneYear_18, k3, ee, Option.bind_some, e2, f9_goOneYear_62, f9_goOneYear_76, bI, one_ne, if_false, if_true, lt, v4, v2', nI_1]
    · rw [wI_o (by omega), wI_s]; rfl
/-- the state k years later -/
noncomputable def yrS (S : Sp) (k : Nat) : Sp := fun a b =>
  if a = 0 ∧ b = 12 then 0 else if a = 0 ∧ b = 4 then S 0 4 + k else if a = 0 ∧ b = 5 then nmS (S 0 7) false true (S 0 5) k
  else if a = 0 ∧ b = 6 then S 0 6 + cnt (dsS (S 0 7) false true (S 0 5)) k
  else if a = 2 ∨ a = 3 ∨ a = 8 ∨ a = 9 then yrs S (S 0 4) (dsS (S 0 7) false true (S 0 5)) (psS S b) (bxS S b) k a else S a b
theorem yrB_o {S : Sp} {y x : Nat} {d : Bool} {P B : Bx} (h : ¬ (x = 2 ∨ x = 3 ∨ x = 8 ∨ x = 9)) : yrB S y d P B x = B x := by
  have l : (if goB B then letB S y P B else B) x = B x := by
    split
    · unfold letB; rw [if_neg (by omega), if_neg (by omega), if_neg (by omega)]
    · rfl
  unfold yrB
  split
  · unfold growB; rw [if_neg (by omega)]; exact l
  · exact l
theorem yrs_o {S : Sp} {y x : Nat} {ds : Nat → Bool} {P B : Bx} (h : ¬ (x = 2 ∨ x = 3 ∨ x = 8 ∨ x = 9)) : ∀ k, yrs S y ds P B k x = B x
  | 0 => rfl
  | k + 1 => (yrB_o h).trans (yrs_o h k)
theorem yrS_bx {S : Sp} {b k x : Nat} (h : 1 ≤ x) : bxS (yrS S k) b x = yrs S (S 0 4) (dsS (S 0 7) false true (S 0 5)) (psS S b) (bxS S b) k x := by
  show yrS S k x b = _
  unfold yrS
  rw [if_neg (by omega), if_neg (by omega), if_neg (by omega), if_neg (by omega)]
  by_cases q : x = 2 ∨ x = 3 ∨ x = 8 ∨ x = 9
  · rw [if_pos q]
  · rw [if_neg q, yrs_o q]; rfl
theorem yrS_o {S : Sp} {k : Nat} : eqB S (yrS S k) := by
  intro a b h
  unfold yrS
  rw [if_neg (by omega), if_neg (by omega), if_neg (by omega), if_neg (by omega), if_neg (by omega)]
theorem yrS_wf {S : Sp} {k : Nat} (w : wfNow S) (hk : S 0 4 + k ≤ 9900) : wfNow (yrS S k) := by
  have h00 : yrS S k 0 0 = S 0 0 := yrS_o 0 0 (by omega)
  have h04 : yrS S k 0 4 = S 0 4 + k := rfl
  have h05 : yrS S k 0 5 = nmS (S 0 7) false true (S 0 5) k := rfl
  have h06 : yrS S k 0 6 = S 0 6 + cnt (dsS (S 0 7) false true (S 0 5)) k := rfl
  refine ⟨by rw [h00]; exact w.1, by rw [h04]; exact hk, by rw [h05]; exact nmS_lt w.2.2.1 k, by rw [h06, h04]; have := w.2.2.2.1; have := cnt_le (dsS (S 0 7) false true (S 0 5)) k; omega, fun i hi => ?_⟩
  rw [h00] at hi
  obtain ⟨y1, y2, y3, y4, y6, y8, y9, yp⟩ := wf_yrs (S := S) (y0 := S 0 4) (ds := dsS (S 0 7) false true (S 0 5)) (wf_bx w hi) k
  have wi := w.2.2.2.2 i hi
  refine ⟨?_, ?_, ?_, ?_, ?_, ?_, ?_, ?_, ?_⟩
  · rw [yrS_o 1 i (by omega)]; exact wi.1
  · rw [show yrS S k 2 i = _ from yrS_bx (S := S) (b := i) (k := k) (x := 2) (by omega)]; exact y2
  · rw [show yrS S k 3 i = _ from yrS_bx (S := S) (b := i) (k := k) (x := 3) (by omega)]; exact y3
  · have e4 : yrS S k 4 i = S 4 i := (yrS_bx (S := S) (b := i) (k := k) (x := 4) (by omega)).trans (yrs_o (by omega) k)
    rw [e4]; exact wi.2.2.2.1
  · rw [yrS_o 5 i (by omega)]; exact wi.2.2.2.2.1
  · have e6 : yrS S k 6 i = S 6 i := (yrS_bx (S := S) (b := i) (k := k) (x := 6) (by omega)).trans (yrs_o (by omega) k)
    rw [e6]; exact wi.2.2.2.2.2.1
  · rw [h04, show yrS S k 8 i = _ from yrS_bx (S := S) (b := i) (k := k) (x := 8) (by omega)]; exact y8
  · rw [h04, show yrS S k 9 i = _ from yrS_bx (S := S) (b := i) (k := k) (x := 9) (by omega)]; exact y9
  · intro j hj; rw [yrS_o 7 _ (by omega)]; exact wi.2.2.2.2.2.2.2.2 j hj
theorem bxC.cg {B B' P P' : Bx} {p : Nat} {c : Hp} (h : bxC B P p c) (e : ∀ x, 1 ≤ x → B' x = B x) (e2 : ∀ k, P' k = P k) : bxC B' P' p c := by
  have ep : P' = P := funext e2
  subst ep
  obtain ⟨h1, h2, h3, h5, h6, h7, h8, h9⟩ := h
  exact ⟨by rw [e 1 (by omega)]; exact h1, h2, by rw [e 2 (by omega)]; exact h3, by rw [e 3 (by omega)]; exact h5, by rw [e 8 (by omega)]; exact h6, by rw [e 4 (by omega)]; exact h7, by rw [e 6 (by omega)]; exact h8, h9⟩
theorem bxM.cg {B B' P P' : Bx} {s b : Nat} {m : Hp} (h : bxM B P s b m) (e : ∀ x, 1 ≤ x → B' x = B x) (e2 : ∀ k, P' k = P k) : bxM B' P' s b m := by
  have ep : P' = P := funext e2
  subst ep
  obtain ⟨h1, h2, h3, h4, h5, h6, h7, h8⟩ := h
  exact ⟨by rw [e 1 (by omega)]; exact h1, by rw [e 2 (by omega)]; exact h2, by rw [e 3 (by omega)]; exact h3, by rw [e 8 (by omega)]; exact h4, by rw [e 9 (by omega)]; exact h5, by rw [e 6 (by omega)]; exact h6, by rw [e 4 (by omega)]; exact h7, h8⟩
theorem boxC_mk {S : Sp} {i p : Nat} {c : Hp} (h : bxC (bxS S i) (psS S i) p c) (h4 : c.1 p 4 = nI (S 5 i)) (h8 : c.1 p 8 = nI (S 9 i)) : boxC S i p c := ⟨h.1, h.2.1, h4, h.2.2.1, h.2.2.2.1, h.2.2.2.2.1, h8, h.2.2.2.2.2.1, h.2.2.2.2.2.2.1, h.2.2.2.2.2.2.2⟩
theorem boxM_mk {S : Sp} {i : Nat} {m : Hp} (h : bxM (bxS S i) (psS S i) 0 i m) (h60 : m.1 0 60 = 0) (h61 : m.1 0 61 = 0) (h10 : m.1 10 i = nI (S 5 i)) : boxM S i m := by
  obtain ⟨h1, h2, h3, h4, h5, h6, h7, h8⟩ := h
  have e : 6 * 0 + i = i := by omega
  rw [e] at h2 h3 h4 h5 h6 h7
  rw [if_pos h60] at h6
  rw [if_pos h61] at h7
  exact ⟨h1, h10, h2, h3, h4, h5, h7, h6, h8⟩
theorem undM.fr {S : Sp} {m m' : Hp} (h : undM S m) (f : ∀ q k, ¬ scrM q k → m'.1 q k = m.1 q k) : undM S m' := by
  refine ⟨(f _ _ (by unfold scrM; omega)).trans h.1, fun j b hj hb => ?_⟩
  obtain ⟨a1, a2, a3⟩ := h.2 j b hj hb
  exact ⟨(f _ _ (by unfold scrM; omega)).trans a1, (f _ _ (by unfold scrM; omega)).trans a2, (f _ _ (by unfold scrM; omega)).trans a3⟩
theorem op_years {S : Sp} {t : Nat} {c m : Hp} (w0 : wfNow S) (w1 : wfTold S) (w : wfLaws S) (u : wfUnd S) (hC : nowC S c) (hM : nowM S m) (hT : toldC S t c) (hU : toldM S m) (hL : lawC S t c) (lM : lawM S m) (uC : undC S c) (uM : undM S m) (x : Int32) : ∃ S' r c' m', f11_years x c = some (r, c') ∧ f12_years x m = some (r, m') ∧ wfNow S' ∧ wfUnd S' ∧ nowC S' c' ∧ nowM S' m' ∧ undC S' c' ∧ undM S' m' ∧ eqB S S' ∧ (∀ q k, ¬ (6 ≤ q ∧ q ≤ 19) → ¬ (q = 34 ∧ k = 4) → c'.1 q k = c.1 q k) ∧ c'.2.2 = c.2.2 ∧ (∀ q k, ¬ scrM q k → ¬ (((24 ≤ q ∧ q ≤ 27) ∧ k < 6) ∨ ((q = 30 ∨ q = 31) ∧ k = 0) ∨ (q = 0 ∧ k = 69)) → m'.1 q k = m.1 q k) ∧ m'.2.1 0 74 = m.2.1 0 74 := by
  have hn := w0.1
  have hkd := kd10 hT.2.1
  obtain ⟨m1, em, fr⟩ := m0_ex m
  have hM1 := hM.fr w0 fr
  have c02 : inb 0 2 = true ∧ ix 0 = 0 := by decide
  have nop : ∀ m', frM m m' → wfNow S ∧ wfUnd S ∧ nowC S c ∧ nowM S m' ∧ undC S c ∧ undM S m' ∧ eqB S S ∧ (∀ q k, ¬ (6 ≤ q ∧ q ≤ 19) → ¬ (q = 34 ∧ k = 4) → c.1 q k = c.1 q k) ∧ c.2.2 = c.2.2 ∧ (∀ q k, ¬ scrM q k → ¬ (((24 ≤ q ∧ q ≤ 27) ∧ k < 6) ∨ ((q = 30 ∨ q = 31) ∧ k = 0) ∨ (q = 0 ∧ k = 69)) → m'.1 q k = m.1 q k) ∧ m'.2.1 0 74 = m.2.1 0 74 := fun m' f => ⟨w0, u, hC, hM.fr w0 f, uC, uM.fr f.1, fun _ _ _ => rfl, fun _ _ _ _ => rfl, rfl, fun q k a _ => f.1 q k a, f.2.2⟩
  simp only [f11_years, f12_years, em, lt, isWithin_eq, isIn_eq, Option.bind_some, gd, c02, if_true, hC.2.1, hM1.2.1]
  rcases wi_cases x 0 99 (by omega) (by omega) with h2 | ⟨K, -, hK, rfl, h2⟩
  · simp only [show wi x 0 99 = 0 from h2, if_true]; exact ⟨S, _, _, _, rfl, rfl, nop _ fr⟩
  have h2 : wi (nI K) 0 99 = 1 := h2
  have hy := w0.2.1
  have lim : (nI (S 0 4) + nI K ≤ (9900 : Int32)) ↔ S 0 4 + K ≤ 9900 := by rw [nI_add, show (9900 : Int32) = nI 9900 from rfl]; exact nI_leI (by omega) (by omega)
  simp only [h2, one_ne, if_false, lim]
  by_cases q : S 0 4 + K ≤ 9900
  case neg => simp only [q, if_false]; exact ⟨S, _, _, _, rfl, rfl, nop _ fr⟩
  simp only [q, if_true]
  obtain ⟨m2, e2, f2, p58, p59, p60, p61, p62, pf, pj⟩ := plain_ex m1
  have fr2 := fr.tr f2
  have hM2 := hM.fr w0 fr2
  obtain ⟨m3, e3⟩ : ∃ m3, m3 = wI m2 0 58 1 := ⟨_, rfl⟩
  have p3 : ∀ q k, ¬ (q = 0 ∧ k = 58) → m3.1 q k = m2.1 q k := fun q k n => by rw [e3]; exact wI_o n
  have fr3 : frM m m3 := fr2.tr ⟨fun q k n => p3 q k (fun e => n (by unfold scrM; omega)), by rw [e3]; rfl, by rw [e3]; rfl⟩
  have hM3 := hM.fr w0 fr3
  have U3 := hU.fr fr3
  have cx : cxM S (S 0 0) (S 0 7) false true none m3 := ⟨lM.f fr3, hM3.1, (p3 _ _ (by omega)).trans p62, by rw [e3, wI_s]; rfl, (p3 _ _ (by omega)).trans p59, U3.2.2.2.1⟩
  have y60 : m3.1 0 60 = 0 := (p3 _ _ (by omega)).trans p60
  have y61 : m3.1 0 61 = 0 := (p3 _ _ (by omega)).trans p61
  simp only [e2, Option.bind_some, ← e3]
  -- the class
  obtain ⟨⟨a, c1⟩, ec, i0, i1, i2, i3, i4, i5, i6⟩ := lp_walk (f := fun z : Int32 × Hp => f11_years_29_s (nI K) z.1 z.2) (fun i z => z.1 = nI i ∧ bsC (S 0 0) (fun b => yrs S (S 0 4) (dsS (S 0 7) false true (S 0 5)) (psS S b) (bxS S b) i) (psS S) z.2 ∧ z.2.1 6 1 = nI (S 0 0) ∧ z.2.1 6 2 = nI (S 0 4 + i) ∧ z.2.1 6 3 = nI (nmS (S 0 7) false true (S 0 5) i) ∧ z.2.1 6 4 = nI (S 0 6 + cnt (dsS (S 0 7) false true (S 0 5)) i) ∧ frW c z.2) K (0, c) ⟨rfl, fun b hb => ⟨bxC_of (hC.2.2.2.2 b hb), (hC.2.2.2.2 b hb).2.2.2.2.2.2.1⟩, hC.1, hC.2.1, hC.2.2.1, hC.2.2.2.1, frW.rf⟩ (fun i z hi hI => by
    obtain ⟨a, c1⟩ := z
    dsimp only at hI
    obtain ⟨rfl, i1, i2, i3, i4, i5, i6⟩ := hI
    have T1 := hT.w i6
    obtain ⟨c2, a1, a2, a3, a4, a5, a6, a7⟩ := shelfYear (Y := S 0 4 + i) w1 w T1 (hL.w i6) lM hn (by omega) (nmS_lt w0.2.2.1 i) i2 i3 i4 (fun b hb => wf_yrs (wf_bx w0 hb) i) i1
    refine ⟨(nI (i + 1), c2), ?_, rfl, a2, a3, a4, a5, ?_, i6.tr a7⟩
    · simp only [f11_years_29_s, nI_ge hi (show K < 2 ^ 31 by omega), if_false, T1.1, Option.bind_some, gd, hkd, if_true, a1, nI_1]
    · show c2.1 6 4 = nI (S 0 6 + (cnt (dsS (S 0 7) false true (S 0 5)) i + (if dsS (S 0 7) false true (S 0 5) i then 1 else 0)))
      rw [a6, i5, ← Nat.add_assoc, ← nI_add (S 0 6 + cnt (dsS (S 0 7) false true (S 0 5)) i)]
      congr 1
      show bI (dsS (S 0 7) false true (S 0 5) i) = _
      cases dsS (S 0 7) false true (S 0 5) i <;> rfl)
  dsimp only at i0 i1 i2 i3 i4 i5 i6
  subst i0
  -- the reference
  obtain ⟨⟨a, h⟩, er, r0, r1⟩ := lp_walk (f := fun z : Int32 × Hp => f12_years_42_s (nI K) z.1 z.2) (fun i z => z.1 = nI i ∧ YM S 0 (S 0 0) (S 0 4) (S 0 7) (S 0 5) false true none (bxS S) (psS S) m3 i z.2) K (0, m3) ⟨rfl, YM.zero (fun b hb _ => bxM_now (hM3.2.2.2.2 b hb) y60 y61) hM3.2.1 hM3.2.2.1⟩ (fun i z hi hI => by
    obtain ⟨a, h⟩ := z
    dsimp only at hI
    obtain ⟨rfl, i1⟩ := hI
    obtain ⟨h', e', i'⟩ := YM.step (Y := S 0 4) w hL cx (show 0 ≤ 1 by omega) hn (fun j h => by cases h) w1.2.2.2.1 w0.2.2.1 (show S 0 4 + i ≤ 12000 by omega) (fun b hb _ => wf_bx w0 hb) i1
    have e' : f12_yearGoes 0 h = some h' := e'
    refine ⟨(nI (i + 1), h'), ?_, rfl, i'⟩
    simp only [f12_years_42_s, nI_ge hi (show K < 2 ^ 31 by omega), if_false, e', Option.bind_some, nI_1])
  dsimp only at r0 r1
  subst r0
  obtain ⟨t1, t2, t3, t4, t5⟩ := r1
  by_cases qK : K = 0
  · subst qK
    -- nothing goes by
    have eC : f11_years_29 (nI 0) 0 c = some (nI (S 0 4), c) := by
      unfold f11_years_29
      refine lp_inr (o := some _) ?_
      simp only [f11_years_29_s, f11_years_51, f11_years_62, show (nI 0 : Int32) = 0 from rfl, Int32.le_refl, if_true, Option.map_some, hC.2.1]
    have v30 : (wI (wI m3 0 58 0) 0 69 ((wI m3 0 58 0).1 0 69)).1 30 0 = nI (S 0 4) := (wI_o (by omega)).trans ((wI_o (by omega)).trans hM3.2.1)
    have eM : f12_years_42 (nI 0) 0 m3 = some (nI (S 0 4), wI (wI m3 0 58 0) 0 69 ((wI m3 0 58 0).1 0 69)) := by
      unfold f12_years_42
      refine lp_inr (o := some _) ?_
      simp only [f12_years_42_s, f12_years_58, f12_years_76, show (nI 0 : Int32) = 0 from rfl, Int32.le_refl, if_true, lt, gd, c02, Option.map_some, v30]
    refine ⟨S, _, _, _, eC, eM, nop _ (fr3.tr ⟨fun q k n => ?_, rfl, rfl⟩)⟩
    by_cases z : q = 0 ∧ k = 69
    · rw [z.1, z.2, wI_s]; exact wI_o (by omega)
    · rw [wI_o z, wI_o (fun e => n (by unfold scrM; omega))]
  · have pK : 0 < K := by omega
    have zK : ¬ nI K ≤ (0 : Int32) := nI_nle pK (by omega)
    have v2 : (wI c1 34 4 0).1 6 2 = nI (S 0 4 + K) := (wI_o (by omega)).trans i3
    have eC : f11_years_29 (nI K) 0 c = some (nI (S 0 4 + K), wI c1 34 4 0) := by
      unfold f11_years_29
      rw [ec]
      refine lp_inr (o := some _) ?_
      simp only [f11_years_29_s, f11_years_51, f11_years_62, f1_clear, lt, nI_le (Nat.le_refl K) (show K < 2 ^ 31 by omega), if_true, zK, if_false, Option.bind_some, Option.map_some, v2]
    obtain ⟨m5, e5⟩ : ∃ m5, m5 = wI (wI h 0 58 0) 0 69 0 := ⟨_, rfl⟩
    have p5 : ∀ q k, ¬ (q = 0 ∧ k = 58) → ¬ (q = 0 ∧ k = 69) → m5.1 q k = h.1 q k := fun q k n n2 => by rw [e5, wI_o n2, wI_o n]
    have v30 : m5.1 30 0 = nI (S 0 4 + K) := (p5 _ _ (by omega) (by omega)).trans t2
    have eM : f12_years_42 (nI K) 0 m3 = some (nI (S 0 4 + K), m5) := by
      unfold f12_years_42
      rw [er]
      refine lp_inr (o := some _) ?_
      simp only [f12_years_42_s, f12_years_58, f12_years_76, nI_le (Nat.le_refl K) (show K < 2 ^ 31 by omega), if_true, zK, if_false, lt, gd, c02, ← e5, Option.map_some, v30]
    have z12 : yrS S K 0 12 = 0 := rfl
    have z00 : yrS S K 0 0 = S 0 0 := yrS_o 0 0 (by omega)
    have hp : ∀ b k, psS (yrS S K) b k = psS S b k := fun b k => yrS_o 7 _ (by omega)
    refine ⟨yrS S K, _, _, _, eC, eM, yrS_wf w0 q, ⟨by rw [z12]; omega, fun j hj => by rw [z12] at hj; omega⟩, ⟨?_, ?_, ?_, ?_, fun b hb => ?_⟩, ⟨?_, ?_, ?_, ?_, fun b hb => ?_⟩, ⟨by rw [z12, wI_s]; rfl, fun j hj => by rw [z12] at hj; omega⟩, ⟨by rw [z12, e5, wI_s]; rfl, fun j b hj => by rw [z12] at hj; omega⟩, yrS_o, fun q k n1 n2 => ?_, i6.2, fun q k n1 n2 => ?_, ?_⟩
    · rw [z00, wI_o (by omega)]; exact i2
    · rw [wI_o (by omega)]; exact i3
    · rw [wI_o (by omega)]; exact i4
    · rw [wI_o (by omega)]; exact i5
    · rw [z00] at hb
      obtain ⟨b1, b2⟩ := i1 b hb
      refine boxC_mk ((b1.cg (fun x hx => yrS_bx hx) (hp b)).k (fun k => wI_o (by omega)) (fun k => wI_o (by omega))) ?_ ?_
      · rw [yrS_o 5 b (by omega), wI_o (by omega), i6.1 _ _ (by omega) (by omega)]; exact (hC.2.2.2.2 b hb).2.2.1
      · have e9 := yrS_bx (S := S) (b := b) (k := K) (x := 9) (by omega)
        rw [wI_o (by omega)]
        exact b2.trans (congrArg nI e9.symm)
    · rw [z00, p5 _ _ (by omega) (by omega), t5.o (q := 0) (k := 12) (by omega) (by omega) (by omega)]; exact hM3.1
    · exact v30
    · rw [e5]; exact t4
    · rw [p5 _ _ (by omega) (by omega), t3, hM3.2.2.2.1, nI_add]; rfl
    · rw [z00] at hb
      have b1 := t1 b hb (by intro h; cases h)
      have b2 : bxM (yrs S (S 0 4) (dsS (S 0 7) false true (S 0 5)) (psS S b) (bxS S b) K) (psS S b) 0 b m5 := b1.p (fun q k hq => p5 q k (by omega) (by omega))
      refine boxM_mk (b2.cg (fun x hx => yrS_bx hx) (hp b)) ?_ ?_ ?_
      · rw [p5 _ _ (by omega) (by omega), t5.o (q := 0) (k := 60) (by omega) (by omega) (by omega)]; exact y60
      · rw [p5 _ _ (by omega) (by omega), t5.o (q := 0) (k := 61) (by omega) (by omega) (by omega)]; exact y61
      · rw [yrS_o 5 b (by omega), p5 _ _ (by omega) (by omega), t5.o (q := 10) (k := b) (by omega) (by omega) (by omega)]; exact (hM3.2.2.2.2 b hb).2.1
    · rw [wI_o n2]; exact i6.1 q k (by omega) (by omega)
    · rw [p5 q k (fun e => n1 (by unfold scrM; omega)) (by omega), t5.1 q k (fun e => n1 (by unfold scrM; omega)) (by omega) (fun a1 a2 b hb _ e => n2 (by omega))]
      exact fr3.1 q k n1
    · rw [e5]
      show h.2.1 0 74 = _
      rw [t5.2.1]; exact fr3.2.2
