/-! The whole relation; calls that change. -/
section RRc
variable {S S' : Sp} {t : Nat} {c c' m m' : Hp}
theorem RR.gen (h : RR S t c m) (e : eT S S') (W : wfNow S' ∧ wfFnd S' ∧ wfUnd S' ∧ wfImg S' ∧ wfTap S') (A : nowC S' c' ∧ fndC S' c' ∧ undC S' c' ∧ imgC S' c' ∧ tapC S' c' ∧ fltC S' c') (B : nowM S' m' ∧ fndM S' m' ∧ undM S' m' ∧ imgM S' m' ∧ tapM S' m' ∧ fltM S' m') (b3 : bzM m') (r : c'.2.2 = c.2.2) (f55 : ∀ q k, 55 ≤ q → c'.1 q k = c.1 q k) (g : ∀ q k, (q = 0 ∧ 12 ≤ k ∧ k ≤ 15) ∨ (2 ≤ q ∧ q ≤ 21) → m'.1 q k = m.1 q k) : RR S' t c' m' := by
  obtain ⟨⟨v1, v2, v3, v4, v5, v6, v7⟩, ⟨c1, c2, c3, c4, c5, c6, c7, c8⟩, ⟨m1, m2, m3, m4, m5, m6, m7, m8⟩, ⟨x1, x2⟩, y1, y2, y3⟩ := h
  obtain ⟨w1, w2, w3, w4, w5⟩ := W
  obtain ⟨a1, a2, a3, a4, a5, a6⟩ := A
  obtain ⟨b1, b2, b4, b5, b6, b7⟩ := B
  have hn := v1.1
  refine ⟨⟨w1, v2.mv e, v3.cg (e 0 3 (by omega)) (fun a b h1 h2 => e a b (by omega)), w2, w3, w4, w5⟩, ⟨a1, c2.mv hn e (by rw [r]) f55, c3.mv e f55, a2, a3, a4, a5, a6⟩, ⟨b1, ?_, ?_, b2, b4, b5, b6, b7⟩, ⟨b3, x2.mv (fun k => g _ k (by omega))⟩, y1.mv (by omega) f55, y2.mv (by omega) f55, by rw [r]; exact y3⟩
  · obtain ⟨h1, h2, h3, h4, h5, h6⟩ := m2
    refine ⟨?_, ?_, ?_, ?_, fun i hi => ?_, fun z hz => ?_⟩
    · rw [e 0 1 (by omega), g _ _ (by omega)]; exact h1
    · rw [e 0 2 (by omega), g _ _ (by omega)]; exact h2
    · rw [e 0 3 (by omega), g _ _ (by omega)]; exact h3
    · rw [e 0 7 (by omega), g _ _ (by omega)]; exact h4
    · rw [e 0 0 (by omega)] at hi
      rw [e 10 i (by omega), g _ _ (by omega)]; exact h5 i hi
    · rw [e 0 1 (by omega)] at hz
      rw [e 11 z (by omega), e 12 z (by omega), e 13 z (by omega), g _ _ (by omega), g _ _ (by omega), g _ _ (by omega)]; exact h6 z hz
  · obtain ⟨h1, h2⟩ := m3
    refine ⟨fun i hi => ?_, fun l hl => ?_⟩
    · rw [e 0 3 (by omega)] at hi
      rw [e 40 i (by omega), e 44 i (by omega), e 45 i (by omega), g _ _ (by omega), g _ _ (by omega), g _ _ (by omega)]
      exact h1 i hi
    · rw [e 42 l (by omega), e 43 l (by omega), g _ _ (by omega), g _ _ (by omega), g _ _ (by omega)]
      exact h2 l hl
theorem RR.fnd (h : RR S t c m) {a b : Option (Int32 × Hp)} (o : ∃ S' r c' m', a = some (r, c') ∧ b = some (r, m') ∧ wfFnd S' ∧ fndC S' c' ∧ fndM S' m' ∧ eqF S S' ∧ (∀ q k, ¬ tF_C q → c'.1 q k = c.1 q k) ∧ c'.2 = c.2 ∧ (∀ q k, ¬ tF_M q k → m'.1 q k = m.1 q k) ∧ m'.2 = m.2) : OK2 a b := by
  obtain ⟨S', r, c', m', e1, e2, w, fc, fm, eq, f, f2, g, g2⟩ := o
  have f' : ∀ q k, ¬ (39 ≤ q ∧ q ≤ 43) → c'.1 q k = c.1 q k := f
  have g' : ∀ q k, ¬ ((q = 0 ∧ (k = 2 ∨ k = 65 ∨ k = 66)) ∨ q = 34) → m'.1 q k = m.1 q k := g
  have eq' : ∀ a b, ¬ ((a = 0 ∧ (b = 14 ∨ b = 15)) ∨ (15 ≤ a ∧ a ≤ 18)) → S' a b = S a b := eq
  have eT' : eT S S' := fun a b z => eq' a b (by omega)
  have eI2 : eI' S S' := fun a b z => eq' a b (by omega)
  have eU' : eU S S' := fun a b z => eq' a b (by omega)
  have eP' : eP S S' := fun a b z => eq' a b (by omega)
  have eE' : eE S S' := fun a b z => eq' a b (by omega)
  have hn := h.1.1.1
  refine ⟨S', t, r, c', m', e1, e2, h.gen eT' ⟨h.1.1.cg (fun k z => eq' 0 k (by omega)) (fun a k h1 h2 => eq' a k (by omega)), w, h.1.2.2.2.2.1.mv eU', h.1.2.2.2.2.2.1.mv eT' eI2, h.1.2.2.2.2.2.2.mv eP'⟩ ⟨h.2.1.1.cg (fun k z => eq' 0 k (by omega)) (fun a k h1 h2 => eq' a k (by omega)) hn (fun q k z => f' q k (by omega)), fc, h.2.1.2.2.2.2.1.mv eU' (fun q k h1 h2 => f' q k (by omega)), h.2.1.2.2.2.2.2.1.mv hn eT' eI2 (f' _ _ (by omega)) (fun q k h1 h2 => f' q k (by omega)), h.2.1.2.2.2.2.2.2.1.mv eP' (fun q k z => f' q k (by omega)), h.2.1.2.2.2.2.2.2.2.mv eE' (fun k z => f' _ k (by omega))⟩ ⟨h.2.2.1.1.cg (fun k z => eq' 0 k (by omega)) (fun a k h1 h2 => eq' a k (by omega)) hn (fun q k z => g' q k (by omega)) (by rw [g2]), fm, h.2.2.1.2.2.2.2.1.mv eU' (fun q k z => g' q k (by omega)), h.2.2.1.2.2.2.2.2.1.mv eT' eI2 (fun q k z => g' q k (by omega)) (by rw [g2]), h.2.2.1.2.2.2.2.2.2.1.mv eP' (fun q k z => g' q k (by omega)), h.2.2.1.2.2.2.2.2.2.2.mv eE' (fun k z => g' _ k (by omega))⟩ (fun j hj => by rw [g' _ _ (by omega)]; exact h.2.2.2.1.1 j hj) (by rw [f2]) (fun q k z => f' q k (by omega)) (fun q k z => g' q k (by omega))⟩
theorem r_find (h : RR S t c m) (x y : Int32) {is : Nat} (his : is ≤ 1) : OK2 (f11_find x y (nI is) c) (f12_find x y (nI is) m) := h.fnd (op_find h.1.2.2.2.1 h.2.1.2.2.2.1 h.2.2.1.2.2.2.1 x y his)
theorem r_strike (h : RR S t c m) (x : Int32) : OK2 (f11_strike x c) (f12_strike x m) := h.fnd (op_strike h.1.2.2.2.1 h.2.1.2.2.2.1 h.2.2.1.2.2.2.1 x)
theorem r_known (h : RR S t c m) (x : Int32) : OK2 (f11_known x c) (f12_known x m) := h.fnd (op_known h.1.2.2.2.1 h.2.1.2.2.2.1 h.2.2.1.2.2.2.1 x)
theorem RR.und (h : RR S t c m) {a b : Option (Int32 × Hp)} (pb : Pt b (fun r => bzM r.2)) (o : ∃ S' r c' m', a = some (r, c') ∧ b = some (r, m') ∧ UOk S S' c c' m m') : OK2 a b := by
  obtain ⟨S', r, c', m', e1, e2, w, u, nc, nm, uc, um, eq, f, f2, g, g2⟩ := o
  have f' : ∀ q k, ¬ ((8 ≤ q ∧ q ≤ 19) ∨ (34 ≤ q ∧ q ≤ 38)) → c'.1 q k = c.1 q k := f
  have g' : ∀ q k, ¬ ((q = 0 ∧ (k = 2 ∨ k = 69)) ∨ q = 36 ∨ ((q = 24 ∨ q = 28 ∨ q = 29) ∧ k < 6)) → m'.1 q k = m.1 q k := g
  have eq' : ∀ a b, ¬ ((a = 0 ∧ b = 12) ∨ (20 ≤ a ∧ a ≤ 23) ∨ a = 2 ∨ a = 4 ∨ a = 6) → S' a b = S a b := eq
  exact ⟨S', t, r, c', m', e1, e2, h.mv (fun a b z => eq' a b (by omega)) (fun a b z => eq' a b (by omega)) (fun a b z => eq' a b (by omega)) (fun a b z => eq' a b (by omega)) (fun a b z => eq' a b (by omega)) w u nc uc nm um (pb (r, m') e2) (by rw [f2]) (fun q k n1 n2 n3 => f' q k (by omega)) (fun q k z => g' q k (by omega)) (by rw [g2])⟩
theorem r_wind (h : RR S t c m) (x y : Int32) : OK2 (f11_wind x y c) (f12_wind x y m) := h.und (bz_wind h.2.2.2.1.1 x y) (op_wind h.1.1 h.1.2.2.2.2.1 h.2.1.1 h.2.2.1.1 h.2.1.2.2.2.2.1 h.2.2.1.2.2.2.2.1 x y)
theorem r_steal (h : RR S t c m) (x : Int32) {is : Nat} (his : is ≤ 1) : OK2 (f11_steal x (nI is) c) (f12_steal x (nI is) m) := h.und (bz_steal h.2.2.2.1.1 x _) (op_steal h.1.1 h.1.2.2.2.2.1 h.2.1.1 h.2.2.1.1 h.2.1.2.2.2.2.1 h.2.2.1.2.2.2.2.1 x his)
theorem r_tooth (h : RR S t c m) (x y : Int32) {is : Nat} (his : is ≤ 1) : OK2 (f11_tooth x y (nI is) c) (f12_tooth x y (nI is) m) := h.und (bz_tooth h.2.2.2.1.1 x y _) (op_tooth h.1.1 h.1.2.2.2.2.1 h.2.1.1 h.2.2.1.1 h.2.1.2.2.2.2.1 h.2.2.1.2.2.2.2.1 x y his)
theorem r_undo (h : RR S t c m) : OK2 (f11_undo c) (f12_undo m) := h.und (bz_undo h.2.2.2.1.1) (op_undo h.1.1 h.1.2.2.2.2.1 h.2.1.1 h.2.2.1.1 h.2.1.2.2.2.2.1 h.2.2.1.2.2.2.2.1)
theorem r_back (h : RR S t c m) : OK2 (f11_back c) (f12_back m) := by
  obtain ⟨S', r, c', m', e1, e2, w, u, nc, nm, uc, um, eq, f, f2, g, g2, g3⟩ := op_back h.1.1 h.1.2.2.2.2.1 h.1.2.2.2.2.2.1 h.2.1.1 h.2.2.1.1 h.2.1.2.2.2.2.1 h.2.2.1.2.2.2.2.1 h.2.1.2.2.2.2.2.1 h.2.2.1.2.2.2.2.2.1
  have eq' : ∀ a b, ¬ ((a = 0 ∧ (b = 12 ∨ 4 ≤ b ∧ b ≤ 6)) ∨ a = 2 ∨ a = 3 ∨ a = 4 ∨ a = 6 ∨ a = 8 ∨ a = 9) → S' a b = S a b := eq
  exact ⟨S', t, r, c', m', e1, e2, h.mv (fun a b z => eq' a b (by omega)) (fun a b z => eq' a b (by omega)) (fun a b z => eq' a b (by omega)) (fun a b z => eq' a b (by omega)) (fun a b z => eq' a b (by omega)) w u nc uc nm um (bz_back h.2.2.2.1.1 (r, m') e2) (by rw [f2]) (fun q k n1 n2 n3 => f q k (by omega) (by omega)) (fun q k z => g q k (by omega)) g2⟩
theorem r_years (h : RR S t c m) (x : Int32) : OK2 (f11_years x c) (f12_years x m) := by
  obtain ⟨S', r, c', m', e1, e2, w, u, nc, nm, uc, um, eq, f, f2, g, g2⟩ := op_years h.1.1 h.1.2.1 h.1.2.2.1 h.1.2.2.2.2.1 h.2.1.1 h.2.2.1.1 h.2.1.2.1 h.2.2.1.2.1 h.2.1.2.2.1 h.2.2.1.2.2.1 h.2.1.2.2.2.2.1 h.2.2.1.2.2.2.2.1 x
  have eq' : ∀ a b, ¬ ((a = 0 ∧ (b = 12 ∨ 4 ≤ b ∧ b ≤ 6)) ∨ a = 2 ∨ a = 3 ∨ a = 4 ∨ a = 6 ∨ a = 8 ∨ a = 9) → S' a b = S a b := eq
  exact ⟨S', t, r, c', m', e1, e2, h.mv (fun a b z => eq' a b (by omega)) (fun a b z => eq' a b (by omega)) (fun a b z => eq' a b (by omega)) (fun a b z => eq' a b (by omega)) (fun a b z => eq' a b (by omega)) w u nc uc nm um (fun j hj => by rw [g _ _ (by unfold scrM; omega) (by omega)]; exact h.2.2.2.1.1 j hj) f2 (fun q k n1 n2 n3 => f q k (by omega) (by omega)) (fun q k z => g q k (by unfold scrM; omega) (by omega)) g2⟩
theorem r_keep (h : RR S t c m) : OK2 (f11_keep c) (f12_keep m) := by
  obtain ⟨S', r, c', m', e1, e2, w, ic, im, eq, f, f2, g, g2, g3⟩ := op_keep h.1.1 h.2.1.1 h.2.2.1.1
  have eq' : ∀ a b, ¬ ((a = 0 ∧ (b = 13 ∨ 20 ≤ b ∧ b ≤ 22)) ∨ (30 ≤ a ∧ a ≤ 35)) → S' a b = S a b := eq
  have eT' : eT S S' := fun a b z => eq' a b (by omega)
  have eF' : eF S S' := fun a b z => eq' a b (by omega)
  have eU' : eU S S' := fun a b z => eq' a b (by omega)
  have eP' : eP S S' := fun a b z => eq' a b (by omega)
  have eE' : eE S S' := fun a b z => eq' a b (by omega)
  have hn := h.1.1.1
  refine ⟨S', t, r, c', m', e1, e2, h.gen eT' ⟨h.1.1.cg (fun k z => eq' 0 k (by omega)) (fun a k h1 h2 => eq' a k (by omega)), h.1.2.2.2.1.mv eF', h.1.2.2.2.2.1.mv eU', w, h.1.2.2.2.2.2.2.mv eP'⟩ ⟨h.2.1.1.cg (fun k z => eq' 0 k (by omega)) (fun a k h1 h2 => eq' a k (by omega)) hn (fun q k z => f q k (by omega) (by omega)), h.2.1.2.2.2.1.mv eF' (fun q k h1 h2 => f q k (by omega) (by omega)), h.2.1.2.2.2.2.1.mv eU' (fun q k h1 h2 => f q k (by omega) (by omega)), ic, h.2.1.2.2.2.2.2.2.1.mv eP' (fun q k z => f q k (by omega) (by omega)), h.2.1.2.2.2.2.2.2.2.mv eE' (fun k z => f _ k (by omega) (by omega))⟩ ⟨h.2.2.1.1.cg (fun k z => eq' 0 k (by omega)) (fun a k h1 h2 => eq' a k (by omega)) hn (fun q k z => g q k (by omega) (by omega)) g2, h.2.2.1.2.2.2.1.mv eF' (fun q k z => g q k (by omega) (by omega)), h.2.2.1.2.2.2.2.1.mv eU' (fun q k z => g q k (by omega) (by omega)), im, h.2.2.1.2.2.2.2.2.2.1.mv eP' (fun q k z => g q k (by omega) (by omega)), h.2.2.1.2.2.2.2.2.2.2.mv eE' (fun k z => g _ k (by omega) (by omega))⟩ (fun j hj => by rw [g _ _ (by omega) (by omega)]; exact h.2.2.2.1.1 j hj) (by rw [f2]) (fun q k z => f q k (by omega) (by omega)) (fun q k z => g q k (by omega) (by omega))⟩
theorem r_feed (h : RR S t c m) (a b d e x : Int32) : OK2 (f11_feed a b d e x c) (f12_feed a b d e x m) := by
  obtain ⟨S', r, c', m', e1, e2, w, ic, im, eq, f, f2, g, g2⟩ := op_feed h.1.2.2.2.2.2.2 h.2.1.2.2.2.2.2.2.1 h.2.2.1.2.2.2.2.2.2.1 a b d e x
  have eq' : ∀ a b, ¬ ((a = 0 ∧ b = 9) ∨ a = 14) → S' a b = S a b := fun a b z => eq a b (by omega) (by omega)
  have eT' : eT S S' := fun a b z => eq' a b (by omega)
  have eF' : eF S S' := fun a b z => eq' a b (by omega)
  have eU' : eU S S' := fun a b z => eq' a b (by omega)
  have eI2 : eI' S S' := fun a b z => eq' a b (by omega)
  have eE' : eE S S' := fun a b z => eq' a b (by omega)
  have hn := h.1.1.1
  refine ⟨S', t, r, c', m', e1, e2, h.gen eT' ⟨h.1.1.cg (fun k z => eq' 0 k (by omega)) (fun a k h1 h2 => eq' a k (by omega)), h.1.2.2.2.1.mv eF', h.1.2.2.2.2.1.mv eU', h.1.2.2.2.2.2.1.mv eT' eI2, w⟩ ⟨h.2.1.1.cg (fun k z => eq' 0 k (by omega)) (fun a k h1 h2 => eq' a k (by omega)) hn (fun q k z => f q k (by omega) (by omega)), h.2.1.2.2.2.1.mv eF' (fun q k h1 h2 => f q k (by omega) (by omega)), h.2.1.2.2.2.2.1.mv eU' (fun q k h1 h2 => f q k (by omega) (by omega)), h.2.1.2.2.2.2.2.1.mv hn eT' eI2 (f _ _ (by omega) (by omega)) (fun q k h1 h2 => f q k (by omega) (by omega)), ic, h.2.1.2.2.2.2.2.2.2.mv eE' (fun k z => f _ k (by omega) (by omega))⟩ ⟨h.2.2.1.1.cg (fun k z => eq' 0 k (by omega)) (fun a k h1 h2 => eq' a k (by omega)) hn (fun q k z => g q k (by omega) (by omega)) (by rw [g2]), h.2.2.1.2.2.2.1.mv eF' (fun q k z => g q k (by omega) (by omega)), h.2.2.1.2.2.2.2.1.mv eU' (fun q k z => g q k (by omega) (by omega)), h.2.2.1.2.2.2.2.2.1.mv eT' eI2 (fun q k z => g q k (by omega) (by omega)) (by rw [g2]), im, h.2.2.1.2.2.2.2.2.2.2.mv eE' (fun k z => g _ k (by omega) (by omega))⟩ (fun j hj => by rw [g _ _ (by omega) (by omega)]; exact h.2.2.2.1.1 j hj) (by rw [f2]) (fun q k z => f q k (by omega) (by omega)) (fun q k z => g q k (by omega) (by omega))⟩
end RRc
