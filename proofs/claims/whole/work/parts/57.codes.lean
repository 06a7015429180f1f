/-! winding: the reference; the call. -/
def qW (n T x : Nat) : Bool := pW T x && (decide (3 ≤ n) || decide (x % 10 = 0)) && (decide (2 ≤ n) || decide (x / 10 % 10 = 0)) && (decide (1 ≤ n) || decide (x / 100 = 0))
noncomputable def gX (S : Sp) (K T x : Nat) : Nat := fW S K T x + rW S K (S 0 0)
def tn (a b c i : Nat) : Nat := if i = 0 then a else if i = 1 then b else if i = 2 then c else 0
theorem dig (y : Nat) : y = 100 * (y / 100) + 10 * (y / 10 % 10) + y % 10 := by
  have := Nat.div_div_eq_div_mul y 10 10
  omega
theorem dig3 {a b d : Nat} (hb : b < 10) (hd : d < 10) : (100 * a + 10 * b + d) / 100 = a ∧ (100 * a + 10 * b + d) / 10 % 10 = b ∧ (100 * a + 10 * b + d) % 10 = d := by
  refine ⟨by omega, ?_, by omega⟩
  rw [show (100 * a + 10 * b + d) / 10 = 10 * a + b by omega]
  omega
theorem winds_ex {n i t s : Nat} {h : Hp} (h12 : h.1 0 12 = nI n) (hn : n ≤ 6) (hi : i < 3) (ht : t ≤ 9) (hv : i < n → h.1 24 (6 + i) = nI s ∧ s ≤ 99) : ∃ h', f12_winds (nI i) (nI t) h = some h' ∧ (∀ q k, ¬ (q = 24 ∧ k = 6 + i) → h'.1 q k = h.1 q k) ∧ h'.2 = h.2 ∧ (i < n → h'.1 24 (6 + i) = nI (min 99 (s + t))) := by
  by_cases q : i < n
  · obtain ⟨v, hs⟩ := hv q
    refine ⟨wI h 24 (6 + i) (nI (min 99 (s + t))), ?_, fun q k n => wI_o n, rfl, fun _ => wI_s⟩
    simp only [f12_winds, f12_winds_49, h12, nI_lt q (show n < 2 ^ 31 by omega), if_true, gd, six_i, inb_t (show 6 + i < 12 by omega) (by omega), ix_nI (show 6 + i < 2 ^ 31 by omega), v, nI_add, lt]
    by_cases q2 : s + t ≤ 99
    · rw [if_pos (by rw [show (99 : Int32) = nI 99 from rfl]; exact nI_le q2 (by omega)), show min 99 (s + t) = s + t by omega]
    · rw [if_neg (by rw [show (99 : Int32) = nI 99 from rfl]; exact nI_ge (by omega) (by omega)), show min 99 (s + t) = 99 by omega]; rfl
  · refine ⟨h, ?_, fun _ _ _ => rfl, rfl, fun z => absurd z q⟩
    simp only [f12_winds, h12, nI_nlt (show n ≤ i by omega) (show i < 2 ^ 31 by omega), if_false]
theorem moreM {S : Sp} {t K a b d : Nat} {c m h : Hp} (w0 : wfNow S) (w1 : wfTold S) (w : wfLaws S) (hM : nowM S m) (hU : toldM S m) (hL : lawC S t c) (lM : lawM S m) (hz : bzM m) (hK : K ≤ 20) (ha : a ≤ 9) (hb9 : b ≤ 9) (hd : d ≤ 9) (f : frM m h) : ∃ h', frM m h' ∧ ∀ x2 x3 x4 x5 x6, f12_winding_147 (nI K) x2 x3 x4 x5 x6 (nI a) (nI b) (nI d) h = if x4 < 0 then f12_winding_205 (nI K) x2 x3 x6 (nI (smN (fun i => gW S K i (tn a b d i)) (S 0 0))) h' else if x5 < nI (smN (fun i => gW S K i (tn a b d i)) (S 0 0)) then f12_winding_205 (nI K) x2 x3 x6 (nI (smN (fun i => gW S K i (tn a b d i)) (S 0 0))) h' else f12_winding_213 (nI K) x2 x3 x4 x5 x6 h' := by
  have hn := w0.1
  obtain ⟨h1, e1, o1, o2, cx, hb, h30, p60, p61⟩ := laidN_ex w0 hM hU lM hz f.1
  have v1 : ∀ i, i < S 0 0 → h1.1 24 (6 + i) = nI (S 2 i) ∧ S 2 i ≤ 99 := fun i hi => ⟨(hb i hi).2.1, (w0.2.2.2.2 i hi).2.1⟩
  obtain ⟨h2, e2, k2, j2, v2⟩ := winds_ex (i := 0) (t := a) (s := S 2 0) cx.2.1 hn (by omega) ha (v1 0)
  obtain ⟨h3, e3, k3, j3, v3⟩ := winds_ex (h := h2) (i := 1) (t := b) (s := S 2 1) ((k2 _ _ (by omega)).trans cx.2.1) hn (by omega) hb9 (fun z => ⟨(k2 _ _ (by omega)).trans (v1 1 z).1, (v1 1 z).2⟩)
  obtain ⟨h4, e4, k4, j4, v4⟩ := winds_ex (h := h3) (i := 2) (t := d) (s := S 2 2) ((k3 _ _ (by omega)).trans ((k2 _ _ (by omega)).trans cx.2.1)) hn (by omega) hd (fun z => ⟨(k3 _ _ (by omega)).trans ((k2 _ _ (by omega)).trans (v1 2 z).1), (v1 2 z).2⟩)
  have o4 : ∀ q k, ¬ (q = 24 ∧ 6 ≤ k) → h4.1 q k = h1.1 q k := fun q k n => by rw [k4 _ _ (by omega), k3 _ _ (by omega), k2 _ _ (by omega)]
  have j42 : h4.2 = h.2 := by rw [j4, j3, j2, o2]
  have s4 : ∀ i, i < S 0 0 → h4.1 24 (6 + i) = nI (wdB (tn a b d i) (bxS S i) 2) := by
    intro i hi
    rw [wd_2]
    have cs : i = 0 ∨ i = 1 ∨ i = 2 ∨ 3 ≤ i := by omega
    rcases cs with rfl | rfl | rfl | q
    · rw [k4 _ _ (by omega), k3 _ _ (by omega)]; exact v2 hi
    · rw [k4 _ _ (by omega)]; exact v3 hi
    · exact v4 hi
    · rw [k4 _ _ (by omega), k3 _ _ (by omega), k2 _ _ (by omega), (v1 i hi).1]
      have e : tn a b d i = 0 := by unfold tn; rw [if_neg (by omega), if_neg (by omega), if_neg (by omega)]
      rw [e]
      have := (v1 i hi).2
      show nI (S 2 i) = nI (min 99 (S 2 i + 0))
      congr 1; omega
  have cx4 : cxM S (S 0 0) (S 0 7) false false none h4 := ⟨cx.1.o (fun q k _ _ => o4 q k (by omega)), (o4 _ _ (by omega)).trans cx.2.1, (o4 _ _ (by omega)).trans cx.2.2.1, (o4 _ _ (by omega)).trans cx.2.2.2.1, (o4 _ _ (by omega)).trans cx.2.2.2.2.1, (o4 _ _ (by omega)).trans cx.2.2.2.2.2⟩
  have b4 : ∀ i, i < S 0 0 → bxM (wdB (tn a b d i) (bxS S i)) (psS S i) 1 i h4 := by
    intro i hi
    obtain ⟨y1, y2, y3, y4, y5, y6, y7, y8⟩ := hb i hi
    refine ⟨?_, s4 i hi, ?_, ?_, ?_, ?_, ?_, fun k hk => ?_⟩
    · rw [wd_o (by omega), o4 _ _ (by omega)]; exact y1
    · rw [wd_o (by omega), o4 _ _ (by omega)]; exact y3
    · rw [wd_o (by omega), o4 _ _ (by omega)]; exact y4
    · rw [wd_o (by omega), o4 _ _ (by omega)]; exact y5
    · rw [wd_o (by omega), o4 _ _ (by omega), o4 _ _ (by omega)]; exact y6
    · rw [wd_o (by omega), o4 _ _ (by omega), o4 _ _ (by omega)]; exact y7
    · rw [o4 _ _ (by omega)]; exact y8 k hk
  have h57 : h4.2.1 0 57 = lN (S 0 5) := by rw [j42, f.2.1]; exact hM.2.2.1
  obtain ⟨h5, e5, t1, t2, t3, t4, t5⟩ := goMany_ex (t := t) (Y := S 0 4) (K := K) w hL cx4 hn (fun j h => by cases h) w1.2.2.2.1 w0.2.2.1 (by have := w0.2.1; omega) (fun b hbn _ => wf_wd (wf_bx w0 hbn)) (fun b hbn _ => b4 b hbn) ((o4 _ _ (by omega)).trans h30) h57
  have F : frM m h5 := by
    refine ⟨fun q k n => ?_, ?_, ?_⟩
    · rw [t5.s q k n, o4 q k (fun e => n (by unfold scrM; omega)), o1 q k n]
    · rw [t4, nmS_as w1.2.2.2.1]; exact hM.2.2.1.symm
    · rw [t5.2.1, j42]; exact f.2.2
  have N5 := hM.fr w0 F
  have L0 : f12_laughsAll 0 h5 = some (nI (smN (S 9) (S 0 0))) := laughsAll_eq (s := 0) (by omega) hn N5.1 (fun b hbn => by
    rw [show 6 * 0 + b = b by omega]; exact (N5.2.2.2.2 b hbn).2.2.2.2.2.1)
  have L1 : f12_laughsAll 1 h5 = some (nI (smN (fun i => S 9 i + gW S K i (tn a b d i)) (S 0 0))) := laughsAll_eq (s := 1) (by omega) hn N5.1 (fun i hi => by
    have h := (t1 i hi (by intro h; cases h)).2.2.2.2.1
    rw [dsS_as w1.2.2.2.1] at h
    rw [h]
    congr 1
    have k := yrs_9 (S := S) (y := S 0 4) (ds := fun _ => d50 S) (P := psS S i) (B := wdB (tn a b d i) (bxS S i)) K
    have k2 : wdB (tn a b d i) (bxS S i) 9 = S 9 i := wd_o (by omega)
    show yrs S (S 0 4) (fun _ => d50 S) (psS S i) (wdB (tn a b d i) (bxS S i)) K 9 = S 9 i + gW S K i (tn a b d i)
    unfold gW gnB
    rw [k2] at k ⊢
    omega)
  refine ⟨h5, F, fun x2 x3 x4 x5 x6 => ?_⟩
  have e2 : f12_winds 0 (nI a) h1 = some h2 := e2
  have e3 : f12_winds 1 (nI b) h2 = some h3 := e3
  have e4 : f12_winds 2 (nI d) h3 = some h4 := e4
  simp only [f12_winding_147, e1, e2, e3, e4, e5, Option.bind_some, L0, L1, smN_add, pk_sub (Nat.le_add_right (smN (S 9) (S 0 0)) (smN (fun i => gW S K i (tn a b d i)) (S 0 0))), Nat.add_sub_cancel_left, lt]
theorem sum_tn (G : Nat → Nat → Nat) (a b d : Nat) {n : Nat} (hn : n ≤ 6) : smN (fun i => G i (tn a b d i)) n = (if 0 < n then G 0 a else 0) + (if 1 < n then G 1 b else 0) + (if 2 < n then G 2 d else 0) + smN (fun i => if i < 3 then 0 else G i 0) n := by
  have cs : n = 0 ∨ n = 1 ∨ n = 2 ∨ n = 3 ∨ n = 4 ∨ n = 5 ∨ n = 6 := by omega
  rcases cs with rfl | rfl | rfl | rfl | rfl | rfl | rfl <;> simp [smN, tn] <;> omega
theorem gX_eq {S : Sp} {K T x : Nat} (hn : S 0 0 ≤ 6) (hp : pW T x = true) : smN (fun i => gW S K i (tn (x / 100) (x / 10 % 10) (x % 10) i)) (S 0 0) = gX S K T x := by
  unfold pW at hp
  rw [decide_eq_true_eq] at hp
  rw [sum_tn (gW S K) _ _ _ hn]
  unfold gX fW ga rW
  have g : ∀ i u, u ≤ T → (if u ≤ T ∧ i < S 0 0 then gW S K i u else 0) = if i < S 0 0 then gW S K i u else 0 := fun i u hu => by
    by_cases q : i < S 0 0
    · rw [if_pos ⟨hu, q⟩, if_pos q]
    · rw [if_neg (fun e => q e.2), if_neg q]
  rw [g 0 _ (by omega), g 1 _ (by omega), g 2 _ (by omega)]
theorem gX_le {S : Sp} {K T x : Nat} (w0 : wfNow S) (hK : K ≤ 20) : gX S K T x ≤ 10000000 := by
  have h1 := fW_le (T := T) (x := x) w0 hK
  have h2 : rW S K (S 0 0) ≤ 990000 * S 0 0 := smN_le (fun i hi => by
    show (if i < 3 then 0 else gW S K i 0) ≤ _
    split
    · omega
    · exact gW_le w0 hK hi)
  have := w0.1
  unfold gX
  omega
theorem qp {n T x : Nat} (h : qW n T x = true) : pW T x = true := by
  unfold qW at h
  rw [Bool.and_eq_true, Bool.and_eq_true, Bool.and_eq_true] at h
  exact h.1.1.1
/-- the class's best code is the reference's -/
theorem best_one {S : Sp} {K T : Nat} : ∃ y, bst (pW T) (fW S K T) 1000 = some y ∧ bst (qW (S 0 0) T) (gX S K T) 1000 = some y := by
  obtain ⟨h1, h2⟩ := bst_some (p := pW T) (f := fW S K T) 1000
  cases e : bst (pW T) (fW S K T) 1000 with
  | none =>
    have := h2 e 0 (by omega)
    unfold pW at this
    exact absurd this (by simp)
  | some y =>
    obtain ⟨y1, y2, y3, y4⟩ := h1 y e
    refine ⟨y, rfl, bst_of ⟨y1, ?_, fun x hx qx => ?_, fun x hx qx => ?_⟩⟩
    · have hy := dig y
      have hs := y2
      unfold pW at hs
      rw [decide_eq_true_eq] at hs
      have b9 : y / 10 % 10 < 10 := Nat.mod_lt _ (by omega)
      have d9 : y % 10 < 10 := Nat.mod_lt _ (by omega)
      generalize ha : y / 100 = a at *
      generalize hb : y / 10 % 10 = b at *
      generalize hd : y % 10 = d at *
      have fy : fW S K T y = ga S K T 0 a + ga S K T 1 b + ga S K T 2 d := by unfold fW; rw [ha, hb, hd]
      have fz : ∀ a' b' d', b' < 10 → d' < 10 → fW S K T (100 * a' + 10 * b' + d') = ga S K T 0 a' + ga S K T 1 b' + ga S K T 2 d' := fun a' b' d' hb' hd' => by
        obtain ⟨z1, z2, z3⟩ := dig3 (a := a') hb' hd'
        unfold fW; rw [z1, z2, z3]
      have pz : ∀ a' b' d', b' < 10 → d' < 10 → a' + b' + d' ≤ T → pW T (100 * a' + 10 * b' + d') = true := fun a' b' d' hb' hd' hs' => by
        obtain ⟨z1, z2, z3⟩ := dig3 (a := a') hb' hd'
        unfold pW; rw [z1, z2, z3]; exact decide_eq_true hs'
      have g0 : ∀ i u, ¬ i < S 0 0 → ga S K T i u = 0 := fun i u hi => by unfold ga; rw [if_neg (fun z => hi z.2)]
      unfold qW
      rw [y2, ha, hb, hd, Bool.true_and, Bool.and_eq_true, Bool.and_eq_true, Bool.or_eq_true, Bool.or_eq_true, Bool.or_eq_true, decide_eq_true_eq, decide_eq_true_eq, decide_eq_true_eq, decide_eq_true_eq, decide_eq_true_eq, decide_eq_true_eq]
      refine ⟨⟨?_, ?_⟩, ?_⟩
      · by_cases q : 3 ≤ S 0 0
        · exact Or.inl q
        · refine Or.inr ?_
          by_cases q2 : d = 0
          · exact q2
          · have := y4 (100 * a + 10 * b + 0) (by omega) (pz a b 0 b9 (by omega) (by omega))
            rw [fz a b 0 b9 (by omega), fy, g0 2 _ (by omega), g0 2 _ (by omega)] at this
            omega
      · by_cases q : 2 ≤ S 0 0
        · exact Or.inl q
        · refine Or.inr ?_
          by_cases q2 : b = 0
          · exact q2
          · have := y4 (100 * a + 10 * 0 + d) (by omega) (pz a 0 d (by omega) d9 (by omega))
            rw [fz a 0 d (by omega) d9, fy, g0 1 _ (by omega), g0 1 _ (by omega)] at this
            omega
      · by_cases q : 1 ≤ S 0 0
        · exact Or.inl q
        · refine Or.inr ?_
          by_cases q2 : a = 0
          · exact q2
          · have := y4 (100 * 0 + 10 * b + d) (by omega) (pz 0 b d b9 d9 (by omega))
            rw [fz 0 b d b9 d9, fy, g0 0 _ (by omega), g0 0 _ (by omega)] at this
            omega
    · have := y3 x hx (qp qx)
      unfold gX; omega
    · have := y4 x hx (qp qx)
      unfold gX; omega
theorem codeM {S : Sp} {K T x : Nat} {h : Hp} {x3 x4 x5 : Int32} (hn : S 0 0 ≤ 6) (hT : T ≤ 9) (h12 : h.1 0 12 = nI (S 0 0)) (hx : x < 1000) : f12_winding_61_s (nI K) (nI T) x3 x4 x5 (nI x) h = if qW (S 0 0) T x = true then f12_winding_147 (nI K) (nI T) x3 x4 x5 (nI x) (nI (x / 100)) (nI (x / 10 % 10)) (nI (x % 10)) h else f12_winding_213 (nI K) (nI T) x3 x4 x5 (nI x) h := by
  have z0 : ¬ (1000 : Int32) ≤ nI x := by rw [lit]; exact nI_ge hx (by omega)
  have d1 : (nI x / 100 : Int32) = nI (x / 100) := by rw [lit]; exact pk_div (by omega) (by omega) (by omega)
  have d2 : (nI x / 10 - nI x / 10 / 10 * 10 : Int32) = nI (x / 10 % 10) := by
    have : (nI x / 10 : Int32) = nI (x / 10) := by rw [lit]; exact pk_div (by omega) (by omega) (by omega)
    rw [this, lit]; exact pk_rem (by omega) (by omega) (by omega)
  have d3 : (nI x - nI x / 10 * 10 : Int32) = nI (x % 10) := by rw [lit]; exact pk_rem (by omega) (by omega) (by omega)
  have b9 : x / 10 % 10 < 10 := Nat.mod_lt _ (by omega)
  have c9 : x % 10 < 10 := Nat.mod_lt _ (by omega)
  have a9 : x / 100 < 10 := by omega
  simp only [f12_winding_61_s, z0, if_false, lt, d1, d2, d3]
  unfold qW pW
  generalize x / 100 = a at *
  generalize x / 10 % 10 = b at *
  generalize x % 10 = d at *
  generalize S 0 0 = n at *
  have z1 : (nI T < nI a + nI b + nI d) ↔ ¬ a + b + d ≤ T := by rw [nI_add, nI_add, nI_ltI (by omega) (by omega)]; omega
  have z2 : ((3 : Int32) ≤ nI n) ↔ 3 ≤ n := by rw [show (3 : Int32) = nI 3 from rfl]; exact nI_leI (by omega) (by omega)
  have z4 : ((2 : Int32) ≤ nI n) ↔ 2 ≤ n := by rw [show (2 : Int32) = nI 2 from rfl]; exact nI_leI (by omega) (by omega)
  have z6 : ((1 : Int32) ≤ nI n) ↔ 1 ≤ n := by rw [show (1 : Int32) = nI 1 from rfl]; exact nI_leI (by omega) (by omega)
  have z3 : ((0 : Int32) < nI d) ↔ ¬ d = 0 := by rw [show (0 : Int32) = nI 0 from rfl, nI_ltI (by omega) (by omega)]; omega
  have z5 : ((0 : Int32) < nI b) ↔ ¬ b = 0 := by rw [show (0 : Int32) = nI 0 from rfl, nI_ltI (by omega) (by omega)]; omega
  have z7 : (nI a ≤ (0 : Int32)) ↔ a = 0 := by rw [show (0 : Int32) = nI 0 from rfl, nI_leI (by omega) (by omega)]; omega
  simp only [f12_winding_118, f12_winding_131, h12, z1, z2, z3, z4, z5, z6, z7]
  generalize f12_winding_147 (nI K) (nI T) x3 x4 x5 (nI x) (nI a) (nI b) (nI d) h = A
  generalize f12_winding_213 (nI K) (nI T) x3 x4 x5 (nI x) h = B
  by_cases p : a + b + d ≤ T
  · simp only [p, not_true_eq_false, if_false, decide_true, Bool.true_and]
    by_cases n3 : 3 ≤ n
    · have n2 : 2 ≤ n := by omega
      have n1 : 1 ≤ n := by omega
      simp [n3, n2, n1]
    · by_cases c0 : d = 0
      · by_cases n2 : 2 ≤ n
        · have n1 : 1 ≤ n := by omega
          simp [n3, n2, n1, c0]
        · by_cases b0 : b = 0
          · by_cases n1 : 1 ≤ n
            · simp [n3, n2, n1, c0, b0]
            · by_cases a0 : a = 0
              · simp [n3, n2, n1, c0, b0, a0]
              · simp [n3, n2, n1, c0, b0, a0]
          · simp [n3, n2, c0, b0]
      · simp [n3, c0]
  · simp [p]
theorem windM {S : Sp} {t K T : Nat} {x3 : Int32} {c m : Hp} (w0 : wfNow S) (w1 : wfTold S) (w : wfLaws S) (hM : nowM S m) (hU : toldM S m) (hL : lawC S t c) (lM : lawM S m) (hz : bzM m) (hK : K ≤ 20) (hT : T ≤ 9) : ∃ h, frM m h ∧ f12_winding_52 (nI K) (nI T) x3 m = f12_winding_219 x3 (eI (bst (qW (S 0 0) T) (gX S K T) 1000)) (eL (gX S K T) (bst (qW (S 0 0) T) (gX S K T) 1000)) h := by
  have hn := w0.1
  unfold f12_winding_52 f12_winding_61
  obtain ⟨⟨a, b, d, h⟩, e, i1, i2, i3, i4⟩ := lp_walk (f := fun z : Int32 × Int32 × Int32 × Hp => f12_winding_61_s (nI K) (nI T) x3 z.1 z.2.1 z.2.2.1 z.2.2.2) (fun x z => z.1 = eI (bst (qW (S 0 0) T) (gX S K T) x) ∧ z.2.1 = eL (gX S K T) (bst (qW (S 0 0) T) (gX S K T) x) ∧ z.2.2.1 = nI x ∧ frM m z.2.2.2) 1000 (-1, 0, 0, m) ⟨rfl, rfl, rfl, frM.rf⟩ (fun x z hx hI => by
    obtain ⟨a, b, d, h⟩ := z
    dsimp only at hI
    obtain ⟨rfl, rfl, rfl, f⟩ := hI
    have N1 := hM.fr w0 f
    have ec := codeM (K := K) (x3 := x3) (x4 := eI (bst (qW (S 0 0) T) (gX S K T) x)) (x5 := eL (gX S K T) (bst (qW (S 0 0) T) (gX S K T) x)) hn hT N1.1 hx
    cases q : qW (S 0 0) T x with
    | false =>
      have eb : bst (qW (S 0 0) T) (gX S K T) (x + 1) = bst (qW (S 0 0) T) (gX S K T) x := by
        show (if qW (S 0 0) T x then _ else bst (qW (S 0 0) T) (gX S K T) x) = _
        rw [q]; rfl
      refine ⟨(eI (bst (qW (S 0 0) T) (gX S K T) x), eL (gX S K T) (bst (qW (S 0 0) T) (gX S K T) x), nI (x + 1), h), ?_, by rw [eb], by rw [eb], rfl, f⟩
      show f12_winding_61_s (nI K) (nI T) x3 _ _ (nI x) h = _
      rw [ec, q, if_neg (by decide)]
      simp only [f12_winding_213, nI_1]
    | true =>
      have eb : bst (qW (S 0 0) T) (gX S K T) (x + 1) = (match bst (qW (S 0 0) T) (gX S K T) x with | none => some x | some y => if gX S K T y < gX S K T x then some x else some y) := by
        show (if qW (S 0 0) T x then _ else bst (qW (S 0 0) T) (gX S K T) x) = _
        rw [q]; rfl
      have px := qp q
      have b9 : x / 10 % 10 < 10 := Nat.mod_lt _ (by omega)
      have c9 : x % 10 < 10 := Nat.mod_lt _ (by omega)
      obtain ⟨h', f', em⟩ := moreM (a := x / 100) (b := x / 10 % 10) (d := x % 10) w0 w1 w hM hU hL lM hz hK (by omega) (by omega) (by omega) f
      rw [gX_eq hn px] at em
      have hgx := gX_le (T := T) (x := x) w0 hK
      have e2 : f12_winding_61_s (nI K) (nI T) x3 (eI (bst (qW (S 0 0) T) (gX S K T) x)) (eL (gX S K T) (bst (qW (S 0 0) T) (gX S K T) x)) (nI x) h = some (.inl (eI (bst (qW (S 0 0) T) (gX S K T) (x + 1)), eL (gX S K T) (bst (qW (S 0 0) T) (gX S K T) (x + 1)), nI (x + 1), h')) := by
        rw [ec, q, if_pos rfl, em, eb]
        cases hb : bst (qW (S 0 0) T) (gX S K T) x with
        | none =>
          simp only [eI, eL, show ((-1 : Int32) < 0) = True from by decide, if_true, f12_winding_205, f12_winding_213, nI_1]
        | some y =>
          have hgy := gX_le (T := T) (x := y) w0 hK
          have hy := ((bst_some (p := qW (S 0 0) T) (f := gX S K T) x).1 y hb).1
          have z : ¬ nI y < (0 : Int32) := nI_pos (by omega)
          by_cases qq : gX S K T y < gX S K T x
          · simp only [eI, eL, z, if_false, qq, nI_lt qq (show gX S K T x < 2 ^ 31 by omega), if_true, f12_winding_205, f12_winding_213, nI_1]
          · simp only [eI, eL, z, if_false, qq, nI_nlt (show gX S K T x ≤ gX S K T y by omega) (show gX S K T y < 2 ^ 31 by omega), f12_winding_213, nI_1]
      exact ⟨_, e2, rfl, rfl, rfl, f'⟩)
  dsimp only at i1 i2 i3 i4
  subst i1 i2 i3
  refine ⟨h, i4, ?_⟩
  rw [e]
  refine lp_inr ?_
  simp only [f12_winding_61_s, show ((1000 : Int32) ≤ nI 1000) = True from by decide, if_true]
theorem op_winding {S : Sp} {t : Nat} {c m : Hp} (w0 : wfNow S) (w1 : wfTold S) (w : wfLaws S) (hC : nowC S c) (hM : nowM S m) (hT : toldC S t c) (hU : toldM S m) (hL : lawC S t c) (lM : lawM S m) (hz : bzM m) (x y z : Int32) : ∃ r c' m', f11_winding x y z c = some (r, c') ∧ f12_winding x y z m = some (r, m') ∧ frC c c' ∧ frM m m' := by
  have hn := w0.1
  obtain ⟨m1, em, fr⟩ := m0_ex m
  have hM1 := hM.fr w0 fr
  simp only [f11_winding, f12_winding, em, lt, isWithin_eq, isIn_eq, hC.1, hM1.1, Option.bind_some]
  rcases wi_cases x 1 20 (by omega) (by omega) with h | ⟨K, hK1, hK, rfl, h⟩
  · simp only [show wi x 1 20 = 0 from h, if_true]; exact ⟨_, _, _, rfl, rfl, frC.rf, fr⟩
  have h : wi (nI K) 1 20 = 1 := h
  rcases wi_cases y 0 9 (by omega) (by omega) with h2 | ⟨T, -, hTT, rfl, h2⟩
  · simp only [h, show wi y 0 9 = 0 from h2, one_ne, if_true, if_false]; exact ⟨_, _, _, rfl, rfl, frC.rf, fr⟩
  have h2 : wi (nI T) 0 9 = 1 := h2
  rcases wi_cases z 0 3 (by omega) (by omega) with h3 | ⟨j, -, hj, rfl, h3⟩
  · simp only [h, h2, show wi z 0 3 = 0 from h3, one_ne, if_true, if_false]; exact ⟨_, _, _, rfl, rfl, frC.rf, fr⟩
  have h3 : wi (nI j) 0 3 = 1 := h3
  have j3 : ((3 : Int32) ≤ nI j) ↔ 3 ≤ j := by rw [show (3 : Int32) = nI 3 from rfl]; exact nI_leI (by omega) (by omega)
  simp only [h, h2, h3, one_ne, if_false, j3]
  have both : ∃ r c' m', f11_winding_50 (nI K) (nI T) (nI j) c = some (r, c') ∧ f12_winding_52 (nI K) (nI T) (nI j) m1 = some (r, m') ∧ frC c c' ∧ frM m m' := by
    obtain ⟨c1, e1, f1, g1⟩ := weigh_ex w0 w1 w hC hT hL lM hK hTT
    obtain ⟨v, c2, e2, f2, wb⟩ := best_1 (c := c1) w0 hK hTT g1
    obtain ⟨y, ey, eq⟩ := best_one (S := S) (K := K) (T := T)
    obtain ⟨h', fm, er⟩ := windM (x3 := nI j) w0 w1 w hM1 (hU.fr fr) hL (lM.f fr) (hz.fr fr) hK hTT
    rw [ey] at wb
    obtain ⟨hv, s0, s1, s2⟩ := wb
    subst hv
    rw [eq] at er
    have hy := ((bst_some (p := pW T) (f := fW S K T) 1000).1 y ey).1
    have F2 := f1.fr.tr f2.fr
    have d1 : (nI y / 100 : Int32) = nI (y / 100) := by rw [lit]; exact pk_div (by omega) (by omega) (by omega)
    have d2 : (nI y / 10 - nI y / 10 / 10 * 10 : Int32) = nI (y / 10 % 10) := by
      have : (nI y / 10 : Int32) = nI (y / 10) := by rw [lit]; exact pk_div (by omega) (by omega) (by omega)
      rw [this, lit]; exact pk_rem (by omega) (by omega) (by omega)
    have d3 : (nI y - nI y / 10 * 10 : Int32) = nI (y % 10) := by rw [lit]; exact pk_rem (by omega) (by omega) (by omega)
    rw [er]
    simp only [f11_winding_50, e1, Option.bind_some, e2, j3, f12_winding_219, eI, eL]
    by_cases q : 3 ≤ j
    · have hj3 : j = 3 := by omega
      subst hj3
      obtain ⟨c3, e3, f3⟩ := restW (a := fW S K T y) w0 w1 w (hC.fr w0 F2) (hT.fr hn F2) (hL.f F2) lM hK
      simp only [Nat.le_refl, if_true, e3, show ((nI 3 : Int32) = 3) = True from by decide]
      exact ⟨_, _, _, rfl, rfl, F2.tr f3, fr.tr fm⟩
    · have cs : j = 0 ∨ j = 1 ∨ j = 2 := by omega
      rcases cs with rfl | rfl | rfl
      · simp only [q, if_false, gd, show inb (nI 0) 3 = true from by decide, show ix (nI 0) = 0 from by decide, if_true, s0, d1, show ((nI 0 : Int32) = 3) = False from by decide, show ((nI 0 : Int32) = 0) = True from by decide]
        exact ⟨_, _, _, rfl, rfl, F2, fr.tr fm⟩
      · simp only [q, if_false, gd, show inb (nI 1) 3 = true from by decide, show ix (nI 1) = 1 from by decide, if_true, s1, d2, show ((nI 1 : Int32) = 3) = False from by decide, show ((nI 1 : Int32) = 0) = False from by decide, show ((nI 1 : Int32) = 1) = True from by decide]
        exact ⟨_, _, _, rfl, rfl, F2, fr.tr fm⟩
      · simp only [q, if_false, gd, show inb (nI 2) 3 = true from by decide, show ix (nI 2) = 2 from by decide, if_true, s2, d3, show ((nI 2 : Int32) = 3) = False from by decide, show ((nI 2 : Int32) = 0) = False from by decide, show ((nI 2 : Int32) = 1) = False from by decide]
        exact ⟨_, _, _, rfl, rfl, F2, fr.tr fm⟩
  by_cases q : 3 ≤ j
  · simp only [q, if_true]; exact both
  · simp only [q, if_false]
    by_cases q2 : j < S 0 0
    · simp only [nI_lt q2 (show S 0 0 < 2 ^ 31 by omega), if_true]; exact both
    · simp only [nI_nlt (show S 0 0 ≤ j by omega) (show j < 2 ^ 31 by omega), if_false]; exact ⟨_, _, _, rfl, rfl, frC.rf, fr⟩
