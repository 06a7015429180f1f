/-! Reading a text: boxes. -/
def addB (D : Sp) (nm w d : Nat) (P : Nat → Nat) : Sp := fun a b => if a = 0 ∧ b = 0 then D 0 0 + 1 else if a = 10 ∧ b = D 0 0 then nm else if a = 2 ∧ b = D 0 0 then w else if a = 1 ∧ b = D 0 0 then d else if (a = 4 ∨ a = 5) ∧ b = D 0 0 then 0 else if a = 7 ∧ 8 * D 0 0 ≤ b then P (b - 8 * D 0 0) else D a b
theorem addB_o {D : Sp} {nm w d a b : Nat} {P : Nat → Nat} (h : ¬ (a = 0 ∧ b = 0)) (h2 : ¬ ((a = 10 ∨ a = 2 ∨ a = 1 ∨ a = 4 ∨ a = 5) ∧ b = D 0 0)) (h3 : ¬ (a = 7 ∧ 8 * D 0 0 ≤ b)) : addB D nm w d P a b = D a b := by
  unfold addB
  rw [if_neg h, if_neg (by omega), if_neg (by omega), if_neg (by omega), if_neg (by omega), if_neg h3]
theorem addB_7 {D : Sp} {nm w d k : Nat} {P : Nat → Nat} : addB D nm w d P 7 (8 * D 0 0 + k) = P k := by
  unfold addB
  rw [if_neg (by omega), if_neg (by omega), if_neg (by omega), if_neg (by omega), if_neg (by omega), if_pos (by omega)]
  congr 1; omega
theorem addB_1 {D : Sp} {nm w d : Nat} {P : Nat → Nat} : addB D nm w d P 10 (D 0 0) = nm ∧ addB D nm w d P 2 (D 0 0) = w ∧ addB D nm w d P 1 (D 0 0) = d ∧ addB D nm w d P 4 (D 0 0) = 0 ∧ addB D nm w d P 5 (D 0 0) = 0 := by
  unfold addB
  refine ⟨?_, ?_, ?_, ?_, ?_⟩
  · rw [if_neg (by omega), if_pos (by omega)]
  · rw [if_neg (by omega), if_neg (by omega), if_pos (by omega)]
  · rw [if_neg (by omega), if_neg (by omega), if_neg (by omega), if_pos (by omega)]
  · rw [if_neg (by omega), if_neg (by omega), if_neg (by omega), if_neg (by omega), if_pos (by omega)]
  · rw [if_neg (by omega), if_neg (by omega), if_neg (by omega), if_neg (by omega), if_pos (by omega)]
section READ4
variable {T : Nat → Nat} {E t : Nat} {c0 m0 : Hp} {D D2 : Sp} {p s x a : Nat} {c m : Hp}
theorem FCl.box162 {f n : Nat} (h : FCl t c0 f s c) (hc : c.1 t 5 = nI n) (hn : n < 6) : ∃ c', f7_readBox_162 (t + 1 + 1 + 2 * n) c = some c' ∧ FCl t c0 f s c' := by
  have hkd := kd10 h.2.2.2.2.1.2
  have hr := h.2.2.2.2.1.1
  have k1 := (h.w (q := t + 1 + 1 + 2 * n) (k := 9) (v := 0) (by omega) (fun i _ _ => by omega) (by omega)).w (q := t + 1 + 1 + 2 * n) (k := 4) (v := 0) (by omega) (fun i _ _ => by omega) (by omega)
  have c5 : (wI (wI c (t + 1 + 1 + 2 * n) 9 0) (t + 1 + 1 + 2 * n) 4 0).1 t 5 = nI n := by rw [wI_o (by omega), wI_o (by omega)]; exact hc
  refine ⟨wI (wI (wI c (t + 1 + 1 + 2 * n) 9 0) (t + 1 + 1 + 2 * n) 4 0) t 5 (nI (n + 1)), ?_, ?_⟩
  · simp only [f7_readBox_162, lt, wI_r, hr, Option.bind_some, gd, hkd, if_true, c5, nI_1]
  · obtain ⟨h1, h2, h3, h4, h5, h6, h7, ⟨n', hn', hn2⟩, ⟨g, hg, hg2⟩⟩ := k1
    have := h5.2
    exact ⟨(wI_o (by omega)).trans h1, h2, (wI_o (by omega)).trans h3, h4, h5, h6.w (fun i _ _ => by omega), h7.w (by omega), ⟨n + 1, by omega, wI_s⟩, ⟨g, hg, (wI_o (by omega)).trans hg2⟩⟩
theorem FCl.box114 {f n : Nat} (hn : n < 6) : ∀ (r k : Nat) (c : Hp), k + r = 8 → FCl t c0 f s c → c.1 t 5 = nI n → ∃ c', f7_readBox_114 (t + 1 + 1 + 2 * n) (nI k) c = some c' ∧ FCl t c0 f s c'
  | 0, k, c, hk, h, hc => by
    obtain ⟨c', e, k'⟩ := h.box162 hc hn
    have hk : k = 8 := by omega
    subst hk
    refine ⟨c', ?_, k'⟩
    unfold f7_readBox_114
    refine lp_inr ?_
    have : (8 : Int32) ≤ nI 8 := by decide
    simp only [f7_readBox_114_s, this, if_true, e, Option.map_some]
  | r + 1, k, c, hk, h, hc => by
    have g : ¬ (8 : Int32) ≤ nI k := by rw [lit]; exact nI_ge (by omega) (by omega)
    obtain ⟨v, ev⟩ : ∃ v, v = c.1 1 6 := ⟨_, rfl⟩
    have k1 : FCl t c0 f s (wI c (t + 1 + 1 + 2 * n + 1) k v) := h.w (by omega) (fun i _ _ => by omega) (by omega)
    have e38 : (wI c (t + 1 + 1 + 2 * n + 1) k v).1 (t + 1 + 1 + 2 * n + 1) k = v := wI_s
    have fin : ∀ u : Int32, ∃ c', f7_readBox_114 (t + 1 + 1 + 2 * n) (nI (k + 1)) (wI (wI c (t + 1 + 1 + 2 * n + 1) k v) (t + 1 + 1 + 2 * n) 3 u) = some c' ∧ FCl t c0 f s c' := fun u =>
      FCl.box114 hn r (k + 1) _ (by omega) (k1.w (by omega) (fun i _ _ => by omega) (by omega)) (by rw [wI_o (by omega), wI_o (by omega)]; exact hc)
    unfold f7_readBox_114 at fin ⊢
    by_cases q : v ≤ 0
    · obtain ⟨c', e, k'⟩ := fin ((wI c (t + 1 + 1 + 2 * n + 1) k v).1 (t + 1 + 1 + 2 * n) 3 + 0)
      refine ⟨c', ?_, k'⟩
      rw [← e]
      refine lp_inl ?_
      simp only [f7_readBox_114_s, g, if_false, h.num, Option.bind_some, gd, inb_t (show k < 8 by omega) (by omega), ix_nI (show k < 2 ^ 31 by omega), if_true, lt, ← ev, e38, q, f7_readBox_152, nI_1]
    · obtain ⟨c', e, k'⟩ := fin ((wI c (t + 1 + 1 + 2 * n + 1) k v).1 (t + 1 + 1 + 2 * n) 3 + 1)
      refine ⟨c', ?_, k'⟩
      rw [← e]
      refine lp_inl ?_
      simp only [f7_readBox_114_s, g, if_false, h.num, Option.bind_some, gd, inb_t (show k < 8 by omega) (by omega), ix_nI (show k < 2 ^ 31 by omega), if_true, lt, ← ev, e38, q, f7_readBox_152, nI_1]
theorem FCl.box49 {f : Nat} (h : FCl t c0 f s c) (x1 s0 : Int32) : f7_readBox_49 x1 s0 c = some c := by
  simp only [f7_readBox_49, h.check, h.step, Option.bind_some, h.ne, if_false]
theorem FCl.box18 {f : Nat} (h : FCl t c0 f s c) (s0 : Int32) : f7_readBox_18 s0 c = some c := by
  obtain ⟨n, hn, e⟩ := h.2.2.2.2.2.2.2.1
  have hkd := kd10 h.2.2.2.2.1.2
  simp only [f7_readBox_18, h.check, h.step, h.name, Option.bind_some, h.2.2.2.2.1.1, gd, hkd, if_true, boxNamed_eq e hn, h.box49, ite_self]
/-- the box under way -/
def BU (D : Sp) (t nm w d k : Nat) (P : Nat → Nat) (c m : Hp) : Prop := (c.1 (t + 1 + 1 + 2 * D 0 0) 1 = nI nm ∧ c.1 (t + 1 + 1 + 2 * D 0 0) 5 = nI w ∧ c.1 (t + 1 + 1 + 2 * D 0 0) 2 = nI d ∧ c.1 (t + 1 + 1 + 2 * D 0 0) 3 = nI (cnt (fun j => decide (0 < P j)) k)) ∧ (m.1 5 (6 + D 0 0) = nI nm ∧ m.1 6 (6 + D 0 0) = nI w ∧ m.1 7 (6 + D 0 0) = nI d) ∧ ∀ j, j < k → P j ≤ 9 ∧ c.1 (t + 1 + 1 + 2 * D 0 0 + 1) j = nI (P j) ∧ m.1 8 (48 + 8 * D 0 0 + j) = nI (P j)
theorem box_end {nm w d s0 : Nat} {P : Nat → Nat} (h : RB T E t c0 m0 D D p s x a c m) (hn : D 0 0 < 6) (hw : w ≤ 99) (hd : 1 ≤ d ∧ d ≤ 9) (hb : BU D t nm w d 8 P c m) (hs : s0 < s) : LO T E t c0 m0 s0 (f7_readBox_162 (t + 1 + 1 + 2 * D 0 0) c) (f12_boxLine_141 m) := by
  have hkd := kd10 h.2.2.1.2
  have ht := h.2.2.1.2
  have hr := h.2.2.1.1
  have dC := h.2.2.2.1
  have dM := h.2.2.2.2.1
  have wf := h.2.2.2.2.2.1
  obtain ⟨⟨b1, b2, b3, b4⟩, ⟨b5, b6, b7⟩, b8⟩ := hb
  have v5 : c.1 t 5 = nI (D 0 0) := dC.1.1
  have v16 : m.1 0 16 = nI (D 0 0) := dM.1.1
  obtain ⟨C, eC⟩ : ∃ C, C = wI (wI (wI c (t + 1 + 1 + 2 * D 0 0) 9 0) (t + 1 + 1 + 2 * D 0 0) 4 0) t 5 (nI (D 0 0 + 1)) := ⟨_, rfl⟩
  obtain ⟨M, eM⟩ : ∃ M, M = wI m 0 16 (nI (D 0 0 + 1)) := ⟨_, rfl⟩
  have oC : ∀ q k, ¬ (q = t ∧ k = 5) → ¬ (q = t + 1 + 1 + 2 * D 0 0 ∧ (k = 9 ∨ k = 4)) → C.1 q k = c.1 q k := fun q k n1 n2 => by rw [eC, wI_o n1, wI_o (by omega), wI_o (by omega)]
  have oM : ∀ q k, ¬ (q = 0 ∧ k = 16) → M.1 q k = m.1 q k := fun q k n1 => by rw [eM, wI_o n1]
  obtain ⟨i10, i2, i1, i4, i5⟩ := addB_1 (D := D) (nm := nm) (w := w) (d := d) (P := P)
  have i7 : ∀ k, addB D nm w d P 7 (8 * D 0 0 + k) = P k := fun k => addB_7
  have q00 : addB D nm w d P 0 0 = D 0 0 + 1 := rfl
  have ob : ∀ a b, ¬ (a = 0 ∧ b = 0) → ¬ ((a = 10 ∨ a = 2 ∨ a = 1 ∨ a = 4 ∨ a = 5) ∧ b = D 0 0) → ¬ (a = 7 ∧ 8 * D 0 0 ≤ b) → addB D nm w d P a b = D a b := fun a b h1 h2 h3 => addB_o h1 h2 h3
  have ep : ∀ i, i < D 0 0 → pinN (addB D nm w d P) i = pinN D i := fun i hi => by
    unfold pinN; exact cnt_congr (fun k hk => by rw [ob 7 (8 * i + k) (by omega) (by omega) (by omega)])
  have en : pinN (addB D nm w d P) (D 0 0) = cnt (fun j => decide (0 < P j)) 8 := by
    unfold pinN; exact cnt_congr (fun k hk => by rw [i7])
  generalize addB D nm w d P = D' at i10 i2 i1 i4 i5 i7 q00 ob ep en
  have wD : wfD D' := by
    obtain ⟨h1, h2, h3, h4, h5, h6, h7, h8, h9, h10, h11⟩ := wf
    refine ⟨by rw [q00]; omega, by rw [ob _ _ (by omega) (by omega) (by omega)]; exact h2, by rw [ob _ _ (by omega) (by omega) (by omega)]; exact h3, by rw [ob _ _ (by omega) (by omega) (by omega)]; exact h4, by rw [ob _ _ (by omega) (by omega) (by omega)]; exact h5, by rw [ob _ _ (by omega) (by omega) (by omega)]; exact h6, by rw [ob _ _ (by omega) (by omega) (by omega)]; exact h7, by rw [ob _ _ (by omega) (by omega) (by omega)]; exact h8, fun i hi => ?_, fun g hg => ?_, h11.cg (ob _ _ (by omega) (by omega) (by omega)) (fun a b _ _ => ob _ _ (by omega) (by omega) (by omega))⟩
    · rw [q00] at hi
      by_cases z : i = D 0 0
      · rw [z, i1, i2, i4, i5]
        exact ⟨hd, hw, by omega, by omega, by simp [tb], fun k hk => by rw [i7]; exact (b8 k hk).1⟩
      · rw [ob 1 _ (by omega) (by omega) (by omega), ob 2 _ (by omega) (by omega) (by omega), ob 4 _ (by omega) (by omega) (by omega), ob 5 _ (by omega) (by omega) (by omega)]
        obtain ⟨b1, b2, b3, b4, b5, b6⟩ := h9 i (by omega)
        exact ⟨b1, b2, b3, b4, b5, fun k hk => by rw [ob _ _ (by omega) (by omega) (by omega)]; exact b6 k hk⟩
    · rw [ob _ _ (by omega) (by omega) (by omega)] at hg
      rw [ob _ _ (by omega) (by omega) (by omega), ob _ _ (by omega) (by omega) (by omega)]; exact h10 g hg
  have dC' : drC D' t C := by
    obtain ⟨⟨a1', a2', a3', a4', a5', a6', a7', a8', a9'⟩, b, g, l1, l2, l3⟩ := dC
    refine ⟨⟨?_, ?_, ?_, ?_, ?_, ?_, ?_, ?_, ?_⟩, fun i hi => ?_, fun g' hg => ?_, l1, fun i hi => ?_, fun l hl => ?_⟩
    · rw [q00, eC, wI_s]
    · rw [ob _ _ (by omega) (by omega) (by omega), oC _ _ (by omega) (by omega)]; exact a2'
    · rw [ob _ _ (by omega) (by omega) (by omega), oC _ _ (by omega) (by omega)]; exact a3'
    · rw [ob _ _ (by omega) (by omega) (by omega), oC _ _ (by omega) (by omega)]; exact a4'
    · rw [ob _ _ (by omega) (by omega) (by omega), oC _ _ (by omega) (by omega)]; exact a5'
    · rw [ob _ _ (by omega) (by omega) (by omega), oC _ _ (by omega) (by omega)]; exact a6'
    · rw [ob _ _ (by omega) (by omega) (by omega), oC _ _ (by omega) (by omega)]; exact a7'
    · rw [ob _ _ (by omega) (by omega) (by omega), oC _ _ (by omega) (by omega)]; exact a8'
    · rw [ob _ _ (by omega) (by omega) (by omega), oC _ _ (by omega) (by omega)]; exact a9'
    · rw [q00] at hi
      by_cases z : i = D 0 0
      · unfold bxT
        rw [z, i10, i1, en, i5, i2, i4, oC _ 1 (by omega) (by omega), oC _ 2 (by omega) (by omega), oC _ 3 (by omega) (by omega), oC _ 5 (by omega) (by omega)]
        refine ⟨b1, b3, b4, ?_, b2, ?_, fun k hk => ?_⟩
        · rw [eC, wI_o (by omega), wI_s]; rfl
        · rw [eC, wI_o (by omega), wI_o (by omega), wI_s]; rfl
        · rw [i7, oC _ _ (by omega) (by omega)]; exact (b8 k hk).2.1
      · have hb := (b i (by omega)).fr (c' := C) (fun k => oC _ _ (by omega) (by omega)) (fun k => oC _ _ (by omega) (by omega))
        unfold bxT at hb ⊢
        rw [ep i (by omega), ob 10 _ (by omega) (by omega) (by omega), ob 1 _ (by omega) (by omega) (by omega), ob 5 _ (by omega) (by omega) (by omega), ob 2 _ (by omega) (by omega) (by omega), ob 4 _ (by omega) (by omega) (by omega)]
        obtain ⟨h1, h2, h3, h4, h5, h6, h7⟩ := hb
        exact ⟨h1, h2, h3, h4, h5, h6, fun k hk => by rw [ob _ _ (by omega) (by omega) (by omega)]; exact h7 k hk⟩
    · rw [ob _ _ (by omega) (by omega) (by omega)] at hg
      rw [ob _ _ (by omega) (by omega) (by omega), ob _ _ (by omega) (by omega) (by omega), ob _ _ (by omega) (by omega) (by omega), oC _ _ (by omega) (by omega), oC _ _ (by omega) (by omega), oC _ _ (by omega) (by omega)]; exact g g' hg
    · rw [ob _ _ (by omega) (by omega) (by omega)] at hi
      rw [ob _ _ (by omega) (by omega) (by omega), ob _ _ (by omega) (by omega) (by omega), oC _ _ (by omega) (by omega), oC _ _ (by omega) (by omega)]; exact l2 i hi
    · rw [ob _ _ (by omega) (by omega) (by omega), ob _ _ (by omega) (by omega) (by omega), oC _ _ (by omega) (by omega), oC _ _ (by omega) (by omega)]; exact l3 l hl
  have dM' : drM D' M := by
    obtain ⟨⟨a1', a2', a3', a4', a5', a6', a7', a8', a9', a10'⟩, b, z, g, l2, l3⟩ := dM
    refine ⟨⟨?_, ?_, ?_, ?_, ?_, ?_, ?_, ?_, ?_, ?_⟩, fun i hi => ?_, fun i h1 h2 => ?_, fun g' hg => ?_, fun i hi => ?_, fun l hl => ?_⟩
    · rw [q00, eM, wI_s]
    · rw [ob _ _ (by omega) (by omega) (by omega), oM _ _ (by omega)]; exact a2'
    · rw [ob _ _ (by omega) (by omega) (by omega), oM _ _ (by omega)]; exact a3'
    · rw [ob _ _ (by omega) (by omega) (by omega), oM _ _ (by omega)]; exact a4'
    · rw [ob _ _ (by omega) (by omega) (by omega), oM _ _ (by omega)]; exact a5'
    · rw [ob _ _ (by omega) (by omega) (by omega), oM _ _ (by omega)]; exact a6'
    · rw [ob _ _ (by omega) (by omega) (by omega), oM _ _ (by omega)]; exact a7'
    · rw [ob _ _ (by omega) (by omega) (by omega), oM _ _ (by omega)]; exact a8'
    · rw [ob _ _ (by omega) (by omega) (by omega), oM _ _ (by omega)]; exact a9'
    · rw [ob _ _ (by omega) (by omega) (by omega), oM _ _ (by omega)]; exact a10'
    · rw [q00] at hi
      rw [oM 5 _ (by omega), oM 6 _ (by omega), oM 7 _ (by omega), oM 9 _ (by omega), oM 10 _ (by omega)]
      by_cases zz : i = D 0 0
      · obtain ⟨z1, z2⟩ := z (D 0 0) (by omega) hn
        rw [zz, i10, i1, i5, i2, i4, b5, b6, b7, z1, z2]
        exact ⟨rfl, rfl, rfl, rfl, rfl, fun k hk => by rw [i7, oM _ _ (by omega)]; exact (b8 k hk).2.2⟩
      · rw [ob 10 _ (by omega) (by omega) (by omega), ob 2 _ (by omega) (by omega) (by omega), ob 1 _ (by omega) (by omega) (by omega), ob 4 _ (by omega) (by omega) (by omega), ob 5 _ (by omega) (by omega) (by omega)]
        obtain ⟨b1, b2, b3, b4, b5, b6⟩ := b i (by omega)
        exact ⟨b1, b2, b3, b4, b5, fun k hk => by rw [ob _ _ (by omega) (by omega) (by omega), oM _ _ (by omega)]; exact b6 k hk⟩
    · rw [q00] at h1
      rw [oM _ _ (by omega), oM _ _ (by omega)]; exact z i (by omega) h2
    · rw [ob _ _ (by omega) (by omega) (by omega)] at hg
      rw [ob _ _ (by omega) (by omega) (by omega), ob _ _ (by omega) (by omega) (by omega), ob _ _ (by omega) (by omega) (by omega), oM _ _ (by omega), oM _ _ (by omega), oM _ _ (by omega)]; exact g g' hg
    · rw [ob _ _ (by omega) (by omega) (by omega)] at hi
      rw [ob 40 _ (by omega) (by omega) (by omega), ob 44 _ (by omega) (by omega) (by omega), ob 45 _ (by omega) (by omega) (by omega), oM 17 _ (by omega), oM 18 _ (by omega), oM 19 _ (by omega)]; exact l2 i hi
    · rw [ob _ _ (by omega) (by omega) (by omega), ob _ _ (by omega) (by omega) (by omega), oM 14 _ (by omega), oM 15 _ (by omega), oM 16 _ (by omega)]; exact l3 l hl
  refine Or.inl ⟨D', p, s, x, a, C, M, ?_, ?_, ?_, hs⟩
  · have c5 : (wI (wI c (t + 1 + 1 + 2 * D 0 0) 9 0) (t + 1 + 1 + 2 * D 0 0) 4 0).1 t 5 = nI (D 0 0) := by rw [wI_o (by omega), wI_o (by omega)]; exact v5
    simp only [f7_readBox_162, lt, wI_r, hr, Option.bind_some, gd, hkd, if_true, c5, nI_1, ← eC]
  · simp only [f12_boxLine_141, lt, v16, nI_1, ← eM]
  · obtain ⟨q1, ⟨f1, f2, f3, f4'⟩, q3, -, -, -, z, y1', y2'⟩ := h
    refine ⟨q1.mv (fun _ => oC _ _ (by omega) (by omega)) (fun _ => oC _ _ (by omega) (by omega)) (fun k _ _ => oM _ _ (by omega)) (fun _ => oM _ _ (by omega)) (fun _ => oM _ _ (by omega)), ⟨(oC _ _ (by omega) (by omega)).trans f1, (oC _ _ (by omega) (by omega)).trans f2, (oM _ _ (by omega)).trans f3, (oM _ _ (by omega)).trans f4'⟩, ?_, dC', dM', wD, ?_, ?_, ?_⟩
    · rw [eC]; exact q3
    · rw [eC]; exact ((z.w (fun i _ e => by omega)).w (fun i _ e => by omega)).w (fun i _ e => by omega)
    · rw [eC]; exact ((y1'.w (by omega)).w (by omega)).w (by omega)
    · rw [eM]; exact y2'.w (by unfold rdM; omega)
end READ4
