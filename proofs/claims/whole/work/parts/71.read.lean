/-! Reading a text: what is told so far, on both sides. -/
/-- the draft: as S, and 0 23 teeth, 0 24 whether damp was told, 0 25 whether a seed -/
def wfD (D : Sp) : Prop := D 0 0 ≤ 6 ∧ D 0 1 ≤ 5 ∧ D 0 2 ≤ 9 ∧ D 0 23 ≤ 12 ∧ D 0 7 ≤ 100 ∧ D 0 8 ≤ 99999 ∧ D 0 24 ≤ 1 ∧ D 0 25 ≤ 1 ∧ (∀ i, i < D 0 0 → (1 ≤ D 1 i ∧ D 1 i ≤ 9) ∧ D 2 i ≤ 99 ∧ (D 4 i < 1024 ∧ D 4 i % 2 = 0) ∧ D 5 i < 64 ∧ tb (D 5 i) i = false ∧ ∀ k, k < 8 → D 7 (8 * i + k) ≤ 9) ∧ (∀ g, g < D 0 1 → D 12 g ≤ 99 ∧ D 13 g ≤ 9) ∧ wfLaws D
def bxT (D : Sp) (i p : Nat) (c : Hp) : Prop := c.1 p 1 = nI (D 10 i) ∧ c.1 p 2 = nI (D 1 i) ∧ c.1 p 3 = nI (pinN D i) ∧ c.1 p 4 = nI (D 5 i) ∧ c.1 p 5 = nI (D 2 i) ∧ c.1 p 9 = nI (D 4 i) ∧ ∀ k, k < 8 → c.1 (p + 1) k = nI (D 7 (8 * i + k))
def drC (D : Sp) (t : Nat) (c : Hp) : Prop := (c.1 t 5 = nI (D 0 0) ∧ c.1 t 6 = nI (D 0 23) ∧ c.1 t 7 = nI (D 0 2) ∧ c.1 t 8 = nI (D 0 1) ∧ c.1 t 9 = nI (D 0 7) ∧ c.1 t 10 = nI (D 0 8) ∧ c.1 t 12 = nI (D 0 24) ∧ c.1 t 13 = nI (D 0 25) ∧ c.1 (t + 14) 5 = nI (D 0 3)) ∧ (∀ i, i < D 0 0 → bxT D i (t + 1 + 1 + 2 * i) c) ∧ (∀ g, g < D 0 1 → c.1 (t + 20) g = nI (D 11 g) ∧ c.1 (t + 21) g = nI (D 12 g) ∧ c.1 (t + 22) g = nI (D 13 g)) ∧ lawC D t c
def drM (D : Sp) (m : Hp) : Prop := (m.1 0 16 = nI (D 0 0) ∧ m.1 0 17 = nI (D 0 23) ∧ m.1 0 18 = nI (D 0 2) ∧ m.1 0 19 = nI (D 0 1) ∧ m.1 0 20 = nI (D 0 3) ∧ m.1 0 43 = nI (D 0 3) ∧ m.1 3 0 = nI (D 0 24) ∧ m.1 3 1 = nI (D 0 25) ∧ m.1 4 2 = nI (D 0 7) ∧ m.1 4 3 = nI (D 0 8)) ∧ (∀ i, i < D 0 0 → m.1 5 (6 + i) = nI (D 10 i) ∧ m.1 6 (6 + i) = nI (D 2 i) ∧ m.1 7 (6 + i) = nI (D 1 i) ∧ m.1 9 (6 + i) = nI (D 4 i) ∧ m.1 10 (6 + i) = nI (D 5 i) ∧ ∀ k, k < 8 → m.1 8 (48 + 8 * i + k) = nI (D 7 (8 * i + k))) ∧ (∀ i, D 0 0 ≤ i → i < 6 → m.1 9 (6 + i) = 0 ∧ m.1 10 (6 + i) = 0) ∧ (∀ g, g < D 0 1 → m.1 11 (5 + g) = nI (D 11 g) ∧ m.1 12 (5 + g) = nI (D 12 g) ∧ m.1 13 (5 + g) = nI (D 13 g)) ∧ (∀ i, i < D 0 3 → m.1 17 (64 + i) = nI (mk (D 40 i)) ∧ m.1 18 (64 + i) = nI (D 44 i) ∧ (bin (D 40 i) → m.1 19 (64 + i) = nI (D 45 i))) ∧ ∀ l, l < 3 → m.1 14 (3 + l) = (if D 42 l < D 43 l then 1 else 0) ∧ (D 42 l < D 43 l → m.1 15 (3 + l) = nI (D 42 l) ∧ m.1 16 (3 + l) = nI (D 43 l))
/-- a tale's boxes were never played -/
def zT (t : Nat) (c : Hp) : Prop := ∀ i, i < 6 → c.1 (t + 1 + 1 + 2 * i) 6 = 0 ∧ c.1 (t + 1 + 1 + 2 * i) 7 = 0 ∧ c.1 (t + 1 + 1 + 2 * i) 8 = 0 ∧ c.1 (t + 1 + 1 + 2 * i) 10 = 0
def frR (t : Nat) (c c' : Hp) : Prop := (∀ q k, ¬ (q = 1 ∧ 3 ≤ k ∧ k ≤ 6) → ¬ (q = 3 ∧ (k = 3 ∨ k = 4)) → ¬ q = 4 → ¬ q = 5 → ¬ ((t ≤ q ∧ q ≤ t + 22) ∧ ¬ (q = t ∧ k = 11)) → c'.1 q k = c.1 q k) ∧ ∀ q k, ¬ (q = 4 ∧ k = 2) → c'.2.2 q k = c.2.2 q k
def rdM (q k : Nat) : Prop := (q = 0 ∧ (k = 4 ∨ k = 5 ∨ 7 ≤ k ∧ k ≤ 11 ∨ 16 ≤ k ∧ k ≤ 20 ∨ 40 ≤ k ∧ k ≤ 45)) ∨ q = 3 ∨ (q = 4 ∧ 2 ≤ k) ∨ ((q = 5 ∨ q = 6 ∨ q = 7 ∨ q = 9 ∨ q = 10) ∧ 6 ≤ k) ∨ (q = 8 ∧ 48 ≤ k) ∨ ((11 ≤ q ∧ q ≤ 13) ∧ 5 ≤ k) ∨ ((14 ≤ q ∧ q ≤ 16) ∧ 3 ≤ k) ∨ ((17 ≤ q ∧ q ≤ 19) ∧ 64 ≤ k) ∨ q = 20 ∨ q = 21
def frS (m m' : Hp) : Prop := (∀ q k, ¬ rdM q k → m'.1 q k = m.1 q k) ∧ m'.2 = m.2
theorem frR.tr {t : Nat} {a b c : Hp} (h : frR t a b) (h' : frR t b c) : frR t a c := ⟨fun q k n1 n2 n3 n4 n5 => (h'.1 q k n1 n2 n3 n4 n5).trans (h.1 q k n1 n2 n3 n4 n5), fun q k n => (h'.2 q k n).trans (h.2 q k n)⟩
theorem frS.tr {a b c : Hp} (h : frS a b) (h' : frS b c) : frS a c := ⟨fun q k n => (h'.1 q k n).trans (h.1 q k n), h'.2.trans h.2⟩
theorem frT.r {t : Nat} {c c' : Hp} (h : frT c c') : frR t c c' := ⟨fun q k n1 _ _ _ _ => h.1 q k n1, fun q k _ => by rw [h.2]⟩
theorem frU.s {m m' : Hp} (h : frU m m') : frS m m' := ⟨fun q k n => h.1 q k (fun e => n (by unfold rdM; omega)), h.2⟩
theorem frR.w {t q k : Nat} {v : Int32} {c h : Hp} (f : frR t c h) (hq : (t ≤ q ∧ q ≤ t + 22) ∧ ¬ (q = t ∧ k = 11)) : frR t c (wI h q k v) := ⟨fun q' k' n1 n2 n3 n4 n5 => (wI_o (by omega)).trans (f.1 q' k' n1 n2 n3 n4 n5), f.2⟩
theorem frS.w {q k : Nat} {v : Int32} {c h : Hp} (f : frS c h) (hq : rdM q k) : frS c (wI h q k v) := ⟨fun q' k' n => (wI_o (fun e => n (by rw [e.1, e.2]; exact hq))).trans (f.1 q' k' n), f.2⟩
theorem bxT.fr {D : Sp} {i p : Nat} {c c' : Hp} (h : bxT D i p c) (f : ∀ k, c'.1 p k = c.1 p k) (g : ∀ k, c'.1 (p + 1) k = c.1 (p + 1) k) : bxT D i p c' := by
  obtain ⟨h1, h2, h3, h4, h5, h6, h7⟩ := h
  exact ⟨(f _).trans h1, (f _).trans h2, (f _).trans h3, (f _).trans h4, (f _).trans h5, (f _).trans h6, fun k hk => (g _).trans (h7 k hk)⟩
theorem drC.fr {D : Sp} {t : Nat} {c c' : Hp} (h : drC D t c) (f : ∀ q k, q = t ∨ (t + 2 ≤ q ∧ q < t + 2 + 2 * D 0 0) ∨ q = t + 14 ∨ ((t + 15 ≤ q ∧ q ≤ t + 16) ∧ k < D 0 3) ∨ (t + 17 ≤ q ∧ q ≤ t + 18) ∨ ((t + 20 ≤ q ∧ q ≤ t + 22) ∧ k < D 0 1) → c'.1 q k = c.1 q k) : drC D t c' := by
  obtain ⟨⟨a1, a2, a3, a4, a5, a6, a7, a8, a9⟩, b, g, l1, l2, l3⟩ := h
  refine ⟨⟨?_, ?_, ?_, ?_, ?_, ?_, ?_, ?_, ?_⟩, fun i hi => (b i hi).fr (fun k => f _ _ (by omega)) (fun k => f _ _ (by omega)), fun x hx => ⟨?_, ?_, ?_⟩, l1, fun i hi => ⟨?_, ?_⟩, fun l hl => ⟨?_, ?_⟩⟩
  · exact (f _ _ (by omega)).trans a1
  · exact (f _ _ (by omega)).trans a2
  · exact (f _ _ (by omega)).trans a3
  · exact (f _ _ (by omega)).trans a4
  · exact (f _ _ (by omega)).trans a5
  · exact (f _ _ (by omega)).trans a6
  · exact (f _ _ (by omega)).trans a7
  · exact (f _ _ (by omega)).trans a8
  · exact (f _ _ (by omega)).trans a9
  · exact (f _ _ (by omega)).trans (g x hx).1
  · exact (f _ _ (by omega)).trans (g x hx).2.1
  · exact (f _ _ (by omega)).trans (g x hx).2.2
  · exact (f _ _ (by omega)).trans (l2 i hi).1
  · exact (f _ _ (by omega)).trans (l2 i hi).2
  · exact (f _ _ (by omega)).trans (l3 l hl).1
  · exact (f _ _ (by omega)).trans (l3 l hl).2
theorem zT.fr {t : Nat} {c c' : Hp} (h : zT t c) (f : ∀ q k, t ≤ q → q ≤ t + 22 → k = 6 ∨ k = 7 ∨ k = 8 ∨ k = 10 → c'.1 q k = c.1 q k) : zT t c' := fun i hi => by
  obtain ⟨h1, h2, h3, h4⟩ := h i hi
  exact ⟨(f _ _ (by omega) (by omega) (by omega)).trans h1, (f _ _ (by omega) (by omega) (by omega)).trans h2, (f _ _ (by omega) (by omega) (by omega)).trans h3, (f _ _ (by omega) (by omega) (by omega)).trans h4⟩
theorem zT.w {t q k : Nat} {v : Int32} {c : Hp} (h : zT t c) (hq : ∀ i, i < 6 → q = t + 1 + 1 + 2 * i → ¬ (k = 6 ∨ k = 7 ∨ k = 8 ∨ k = 10)) : zT t (wI c q k v) := fun i hi => by
  obtain ⟨h1, h2, h3, h4⟩ := h i hi
  have e := hq i hi
  exact ⟨(wI_o (by omega)).trans h1, (wI_o (by omega)).trans h2, (wI_o (by omega)).trans h3, (wI_o (by omega)).trans h4⟩
theorem drM.fr {D : Sp} {m m' : Hp} (h : drM D m) (f : ∀ q k, (q = 0 ∧ (16 ≤ k ∧ k ≤ 20 ∨ k = 43)) ∨ q = 3 ∨ q = 4 ∨ ((5 ≤ q ∧ q ≤ 7) ∧ k < 6 + D 0 0) ∨ (q = 8 ∧ k < 48 + 8 * D 0 0) ∨ (9 ≤ q ∧ q ≤ 10) ∨ ((11 ≤ q ∧ q ≤ 13) ∧ k < 5 + D 0 1) ∨ (14 ≤ q ∧ q ≤ 16) ∨ ((17 ≤ q ∧ q ≤ 19) ∧ k < 64 + D 0 3) → m'.1 q k = m.1 q k) : drM D m' := by
  obtain ⟨⟨a1, a2, a3, a4, a5, a6, a7, a8, a9, a10⟩, b, z, g, l2, l3⟩ := h
  refine ⟨⟨?_, ?_, ?_, ?_, ?_, ?_, ?_, ?_, ?_, ?_⟩, fun i hi => ⟨?_, ?_, ?_, ?_, ?_, fun k hk => ?_⟩, fun i h1 h2 => ⟨?_, ?_⟩, fun x hx => ⟨?_, ?_, ?_⟩, fun i hi => ⟨?_, ?_, fun hb => ?_⟩, fun l hl => ⟨?_, fun ht => ⟨?_, ?_⟩⟩⟩
  · exact (f _ _ (by omega)).trans a1
  · exact (f _ _ (by omega)).trans a2
  · exact (f _ _ (by omega)).trans a3
  · exact (f _ _ (by omega)).trans a4
  · exact (f _ _ (by omega)).trans a5
  · exact (f _ _ (by omega)).trans a6
  · exact (f _ _ (by omega)).trans a7
  · exact (f _ _ (by omega)).trans a8
  · exact (f _ _ (by omega)).trans a9
  · exact (f _ _ (by omega)).trans a10
  · exact (f _ _ (by omega)).trans (b i hi).1
  · exact (f _ _ (by omega)).trans (b i hi).2.1
  · exact (f _ _ (by omega)).trans (b i hi).2.2.1
  · exact (f _ _ (by omega)).trans (b i hi).2.2.2.1
  · exact (f _ _ (by omega)).trans (b i hi).2.2.2.2.1
  · exact (f _ _ (by omega)).trans ((b i hi).2.2.2.2.2 k hk)
  · exact (f _ _ (by omega)).trans (z i h1 h2).1
  · exact (f _ _ (by omega)).trans (z i h1 h2).2
  · exact (f _ _ (by omega)).trans (g x hx).1
  · exact (f _ _ (by omega)).trans (g x hx).2.1
  · exact (f _ _ (by omega)).trans (g x hx).2.2
  · exact (f _ _ (by omega)).trans (l2 i hi).1
  · exact (f _ _ (by omega)).trans (l2 i hi).2.1
  · exact (f _ _ (by omega)).trans ((l2 i hi).2.2 hb)
  · exact (f _ _ (by omega)).trans (l3 l hl).1
  · exact (f _ _ (by omega)).trans ((l3 l hl).2 ht).1
  · exact (f _ _ (by omega)).trans ((l3 l hl).2 ht).2
/-- reading goes on: no fault so far -/
def RB (T : Nat → Nat) (E t : Nat) (c0 m0 : Hp) (D D2 : Sp) (p s x a : Nat) (c m : Hp) : Prop := tks T E p s x a c m ∧ (c.1 3 3 = 0 ∧ c.1 3 4 = -1 ∧ m.1 0 4 = 0 ∧ m.1 0 5 = -1) ∧ (c.2.2 3 2 = some t ∧ (t = 55 ∨ t = 78)) ∧ drC D t c ∧ drM D2 m ∧ wfD D ∧ zT t c ∧ frR t c0 c ∧ frS m0 m
/-- a fault was met: the class, the reference -/
def cOk (t : Nat) (c : Hp) : Prop := (∃ n, n ≤ 6 ∧ c.1 t 5 = nI n) ∧ ∃ n, n ≤ 5 ∧ c.1 t 8 = nI n
def FCl (t : Nat) (c0 : Hp) (f s : Nat) (c : Hp) : Prop := c.1 3 3 = nI f ∧ (1 ≤ f ∧ f ≤ 5) ∧ c.1 3 4 = nI s ∧ s ≤ 700 ∧ (c.2.2 3 2 = some t ∧ (t = 55 ∨ t = 78)) ∧ zT t c ∧ frR t c0 c ∧ cOk t c
def FRf (m0 : Hp) (f s : Nat) (m : Hp) : Prop := m.1 0 4 = nI f ∧ m.1 0 5 = nI s ∧ frS m0 m
section READ
variable {T : Nat → Nat} {E t : Nat} {c0 m0 : Hp} {D D2 : Sp} {p s x a : Nat} {c m : Hp}
theorem tks.mv {c' m' : Hp} (h : tks T E p s x a c m) (f : ∀ k, c'.1 1 k = c.1 1 k) (f2 : ∀ k, c'.1 2 k = c.1 2 k) (g : ∀ k, 6 ≤ k → k ≤ 10 → m'.1 0 k = m.1 0 k) (g1 : ∀ k, m'.1 1 k = m.1 1 k) (g2 : ∀ k, m'.1 2 k = m.1 2 k) : tks T E p s x a c' m' := by
  obtain ⟨⟨a1, a2, a3, a4, a5⟩, h1, h2, h3, h4, h5, h6, h7, h8, h9, h10⟩ := h
  refine ⟨⟨a1, (f _).trans a2, (g _ (by omega) (by omega)).trans a3, fun i hi => ⟨(a4 i hi).1, (f2 _).trans (a4 i hi).2.1, (g1 _).trans (a4 i hi).2.2⟩, fun j hj => (g2 _).trans (a5 j hj)⟩, (f _).trans h1, (g _ (by omega) (by omega)).trans h2, (f _).trans h3, (g _ (by omega) (by omega)).trans h4, h5, h6, ?_, h8, h9, h10⟩
  rw [f 5, f 6, g 8 (by omega) (by omega), g 9 (by omega) (by omega)]; exact h7
theorem RB.next (h : RB T E t c0 m0 D D2 p s x a c m) : ∃ c' m' p' s' x' a', f8_next c = some c' ∧ f12_token m = some m' ∧ RB T E t c0 m0 D D2 p' s' x' a' c' m' ∧ p ≤ s' ∧ frT c c' ∧ frU m m' := by
  obtain ⟨h1, ⟨f1, f2, f3, f4⟩, ⟨r1, r2⟩, d1, d2, w, z, g1, g2⟩ := h
  obtain ⟨c', m', p', s', x', a', e1, e2, k, hp, fc, fm⟩ := next_both h1.1 h1.2.1 h1.2.2.1 h1.2.2.2.2.2.2.1
  refine ⟨c', m', p', s', x', a', e1, e2, ⟨k, ⟨(fc.1 _ _ (by omega)).trans f1, (fc.1 _ _ (by omega)).trans f2, (fm.1 _ _ (by omega)).trans f3, (fm.1 _ _ (by omega)).trans f4⟩, ⟨by rw [fc.2]; exact r1, r2⟩, d1.fr (fun q k n => fc.1 _ _ (by omega)), d2.fr (fun q k n => fm.1 _ _ (by omega)), w, z.fr (fun q k a b _ => fc.1 _ _ (by omega)), g1.tr fc.r, g2.tr fm.s⟩, hp, fc, fm⟩
theorem RB.fail (h : RB T E t c0 m0 D D2 p s x a c m) {f : Nat} (hf : 1 ≤ f ∧ f ≤ 5) : ∃ c' m', f7_fail (nI f) c = some c' ∧ f12_wrong (nI f) m = some (0, m') ∧ FCl t c0 f s c' ∧ FRf m0 f s m' := by
  obtain ⟨h1, ⟨f1, f2, f3, f4⟩, ⟨r1, r2⟩, d1, d2, w, z, g1, g2⟩ := h
  have hs : s ≤ 700 := by have := h1.1.1; have := h1.2.2.2.2.2.1; have := h1.2.2.2.2.2.2.1; omega
  have v1 : (wI c 3 3 (nI f)).1 1 4 = nI s := (wI_o (by omega)).trans h1.2.2.2.1
  have v2 : (wI m 0 4 (nI f)).1 0 10 = nI s := (wI_o (by omega)).trans h1.2.2.2.2.1
  refine ⟨wI (wI c 3 3 (nI f)) 3 4 (nI s), wI (wI m 0 4 (nI f)) 0 5 (nI s), ?_, ?_, ⟨(wI_o (by omega)).trans wI_s, hf, wI_s, hs, ⟨r1, r2⟩, (z.w (fun i _ _ => by omega)).w (fun i _ _ => by omega), ?_, ⟨⟨D 0 0, w.1, ?_⟩, ⟨D 0 1, w.2.1, ?_⟩⟩⟩, (wI_o (by omega)).trans wI_s, wI_s, (g2.w (by unfold rdM; omega)).w (by unfold rdM; omega)⟩
  · simp only [f7_fail, f1, if_true, lt, v1]
  · simp only [f12_wrong, lt, v2]
  · exact g1.tr ⟨fun q k n1 n2 n3 n4 n5 => (wI_o (by omega)).trans (wI_o (by omega)), fun _ _ _ => rfl⟩
  · exact (wI_o (by omega)).trans ((wI_o (by omega)).trans d1.1.1)
  · exact (wI_o (by omega)).trans ((wI_o (by omega)).trans d1.1.2.2.2.1)
theorem FCl.ne {f : Nat} (h : FCl t c0 f s c) : ¬ c.1 3 3 = 0 := by
  rw [h.1]; exact nI_ne0 (by have := h.2.1; omega) (by have := h.2.1; omega)
theorem FCl.fail {f : Nat} (h : FCl t c0 f s c) (v : Int32) : f7_fail v c = some c := by simp only [f7_fail, h.ne, if_false]
theorem FCl.check {f : Nat} (h : FCl t c0 f s c) (u v : Int32) : f7_check u v c = some c := by
  simp only [f7_check, h.fail, Option.bind_some, ite_self]
theorem FCl.step {f : Nat} (h : FCl t c0 f s c) : f7_step c = some c := by simp only [f7_step, h.ne, if_false]
theorem FCl.chkN {f : Nat} (h : FCl t c0 f s c) (u v : Int32) : f7_checkNumber u v c = some c := by
  simp only [f7_checkNumber, f7_checkNumber_17, f7_checkNumber_48, f7_checkNumber_49, h.check, Option.bind_some, ite_self]
theorem FCl.num {f : Nat} (h : FCl t c0 f s c) (u v : Int32) : f7_takeNumber u v c = some (c.1 1 6, c) := by
  simp only [f7_takeNumber, lt, h.chkN, Option.bind_some, h.ne, if_false]
theorem FCl.w {f q k : Nat} {v : Int32} (h : FCl t c0 f s c) (hq : (t ≤ q ∧ q ≤ t + 22) ∧ ¬ (q = t ∧ k = 11)) (hz : ∀ i, i < 6 → q = t + 1 + 1 + 2 * i → ¬ (k = 6 ∨ k = 7 ∨ k = 8 ∨ k = 10)) (hc : ¬ (q = t ∧ (k = 5 ∨ k = 8))) : FCl t c0 f s (wI c q k v) := by
  obtain ⟨h1, h2, h3, h4, h5, h6, h7, ⟨n, hn, hn2⟩, ⟨g, hg, hg2⟩⟩ := h
  have := h5.2
  exact ⟨(wI_o (by omega)).trans h1, h2, (wI_o (by omega)).trans h3, h4, h5, h6.w hz, h7.w hq, ⟨n, hn, (wI_o (by omega)).trans hn2⟩, ⟨g, hg, (wI_o (by omega)).trans hg2⟩⟩
theorem ofLang_n {v : Nat} (hv : v < 2 ^ 31) : (notLang v → f7_isOfLanguage (nI v) = some 0) ∧ (∀ w, w < 20 → v = langN w → f7_isOfLanguage (nI v) = some 1) := by
  have ka : ∀ j, j < 20 → ∃ w, w < 20 ∧ langF j = nI (langN w) := by decide +kernel
  have kb : ∀ w, w < 20 → ∃ j, j < 20 ∧ langF j = nI (langN w) := by decide +kernel
  have kc : ∀ w, w < 20 → langN w < 2 ^ 31 := fun w hw => (lang_all w hw).2.2.2.2.2.2.1
  have st : ∀ j, j < 20 → f7_isOfLanguage_2_s (nI v) (nI j) = if langF j = nI v then some (.inr 1) else some (.inl (nI (j + 1))) := fun j hj => by
    have g : ¬ (20 : Int32) ≤ nI j := by rw [lit]; exact nI_ge hj (by omega)
    simp only [f7_isOfLanguage_2_s, g, if_false, gd, inb_t hj (by omega), ix_nI (show j < 2 ^ 31 by omega), if_true, nI_1]
  constructor
  · intro hn
    unfold f7_isOfLanguage f7_isOfLanguage_2
    refine lp_for1 (f := fun z : Int32 => f7_isOfLanguage_2_s (nI v) z) (fun j => nI j) 20 (fun j hj => ?_) ?_
    · obtain ⟨w, hw, e⟩ := ka j hj
      rw [st j hj, if_neg]
      rw [e, nI_eq (kc w hw) hv]
      exact fun z => hn w hw z.symm
    · have : (20 : Int32) ≤ nI 20 := by decide
      simp only [f7_isOfLanguage_2_s, this, if_true]
  · intro w hw e
    obtain ⟨j, hj, ej⟩ := kb w hw
    have ej : langF j = nI v := by rw [ej, e]
    have le : ∃ j, j < 20 ∧ langF j = nI v := ⟨j, hj, ej⟩
    obtain ⟨k, ⟨hk, ek⟩, hmin⟩ := pk_least (fun j => j < 20 ∧ langF j = nI v) le
    unfold f7_isOfLanguage f7_isOfLanguage_2
    refine lp_for1 (f := fun z : Int32 => f7_isOfLanguage_2_s (nI v) z) (fun j => nI j) k (fun j hj => ?_) ?_
    · rw [st j (by omega), if_neg (fun z => hmin j hj ⟨by omega, z⟩)]
    · rw [st k hk, if_pos ek]
theorem ofLang_s (v : Int32) : ∃ r, f7_isOfLanguage v = some r := by
  unfold f7_isOfLanguage f7_isOfLanguage_2
  obtain ⟨r, e, -⟩ := tt_lp (f := fun z : Int32 => f7_isOfLanguage_2_s v z) (Q := fun _ => True) (fun n z => ∃ j, j + n = 20 ∧ z = nI j) (fun n z h => by
    obtain ⟨j, hj, rfl⟩ := h
    by_cases q : j < 20
    · have g : ¬ (20 : Int32) ≤ nI j := by rw [lit]; exact nI_ge q (by omega)
      by_cases q2 : langF j = v
      · exact ⟨.inr 1, by simp only [f7_isOfLanguage_2_s, g, if_false, gd, inb_t q (by omega), ix_nI (show j < 2 ^ 31 by omega), if_true, q2], trivial⟩
      · exact ⟨.inl (nI (j + 1)), by simp only [f7_isOfLanguage_2_s, g, if_false, gd, inb_t q (by omega), ix_nI (show j < 2 ^ 31 by omega), if_true, q2, nI_1], n - 1, by omega, j + 1, by omega, rfl⟩
    · have g : (20 : Int32) ≤ nI j := by rw [lit]; exact nI_le (by omega) (by omega)
      exact ⟨.inr 0, by simp only [f7_isOfLanguage_2_s, g, if_true], trivial⟩) 20 0 ⟨0, by omega, rfl⟩
  exact ⟨r, e⟩
theorem FCl.name {f : Nat} (h : FCl t c0 f s c) : f7_takeName c = some (c.1 1 6, c) := by
  obtain ⟨r, er⟩ := ofLang_s (c.1 1 6)
  simp only [f7_takeName, f7_takeName_29, f7_takeName_30, er, Option.bind_some, h.check, ite_self]
/-- a name of one's own, or not -/
theorem RB.name (h : RB T E t c0 m0 D D2 p s x a c m) : (x = 1 ∧ a < 2 ^ 31 ∧ f7_takeName c = some (nI a, c) ∧ m.1 0 8 = 2 ∧ m.1 0 9 = nI a) ∨ (¬ m.1 0 8 = 2 ∧ ∃ c' m', f7_takeName c = some (c.1 1 6, c') ∧ f12_wrong 1 m = some (0, m') ∧ FCl t c0 1 s c' ∧ FRf m0 1 s m' ∧ c'.1 1 6 = c.1 1 6) := by
  obtain ⟨c', m', e1, e2, k1, k2⟩ := h.fail (f := 1) (by omega)
  have e1 : f7_fail 1 c = some c' := e1
  have e2 : f12_wrong 1 m = some (0, m') := e2
  have v6 : c'.1 1 6 = c.1 1 6 := by
    have := h.2.1.1
    simp only [f7_fail, this, if_true, lt] at e1
    have e1 := Option.some.inj e1
    rw [← e1, wI_o (by omega), wI_o (by omega)]
  have bad : ¬ m.1 0 8 = 2 → (f7_takeName c = f7_takeName_29 c) → (x = 1 ∧ a < 2 ^ 31 ∧ f7_takeName c = some (nI a, c) ∧ m.1 0 8 = 2 ∧ m.1 0 9 = nI a) ∨ (¬ m.1 0 8 = 2 ∧ ∃ c' m', f7_takeName c = some (c.1 1 6, c') ∧ f12_wrong 1 m = some (0, m') ∧ FCl t c0 1 s c' ∧ FRf m0 1 s m' ∧ c'.1 1 6 = c.1 1 6) := by
    intro hk ht
    refine Or.inr ⟨hk, c', m', ?_, e2, k1, k2, v6⟩
    rw [ht]
    simp only [f7_takeName_29, f7_takeName_30, f7_check, if_true, e1, Option.bind_some, v6]
  have hx := h.1.2.2.2.2.2.2.2.2.1
  have tk := h.1.2.2.2.2.2.2.2.1
  have cs : x = 0 ∨ x = 1 ∨ x = 2 ∨ x = 3 ∨ x = 4 ∨ x = 5 := by omega
  have nw : ¬ c.1 1 5 = 1 → f7_takeName c = f7_takeName_29 c := fun z => by simp only [f7_takeName, z, if_false]
  rcases cs with rfl | rfl | rfl | rfl | rfl | rfl
  · obtain ⟨t1, t2⟩ := tk
    exact bad (by rw [t2]; decide) (nw (by rw [t1]; decide))
  · obtain ⟨t1, t2, t3, t4⟩ := tk
    rcases t4 with ⟨w, hw, ew, u1, u2⟩ | ⟨hn, u1, u2⟩
    · refine bad (by rw [u1]; decide) ?_
      have := (ofLang_n t3).2 w hw ew
      simp only [f7_takeName, t1, if_true, t2, this, Option.bind_some, one_ne, if_false]
    · refine Or.inl ⟨rfl, t3, ?_, u1, u2⟩
      have := (ofLang_n t3).1 hn
      simp only [f7_takeName, t1, if_true, t2, this, Option.bind_some, f7_takeName_30, f7_check, one_ne, if_false]
  · obtain ⟨t1, t2, -⟩ := tk
    exact bad (by rw [t2]; decide) (nw (by rw [t1]; decide))
  · obtain ⟨t1, t2, -⟩ := tk
    exact bad (by rw [t2]; decide) (nw (by rw [t1]; decide))
  · obtain ⟨t1, t2, -⟩ := tk
    exact bad (by rw [t2]; decide) (nw (by rw [t1]; decide))
  · obtain ⟨t1, t2⟩ := tk
    refine bad ?_ (nw (by rw [t1]; decide))
    rcases t2 with t2 | ⟨t2, -⟩
    · rw [t2]; decide
    · rw [t2]; decide
/-- a number between lo and hi, or not -/
theorem RB.num (h : RB T E t c0 m0 D D2 p s x a c m) {lo hi : Nat} (hh : hi ≤ 99999) (hlo : lo ≤ hi) : (∃ v c' m' p' s' x' a', lo ≤ v ∧ v ≤ hi ∧ f7_takeNumber (nI lo) (nI hi) c = some (nI v, c') ∧ f12_number (nI lo) (nI hi) m = some (1, m') ∧ m'.1 0 11 = nI v ∧ RB T E t c0 m0 D D2 p' s' x' a' c' m' ∧ p ≤ s' ∧ frT c c' ∧ frU (wI m 0 11 (nI v)) m' ∧ f7_checkNumber (nI lo) (nI hi) c = some c ∧ c.1 1 6 = nI v) ∨ (∃ f c' m' r, f7_takeNumber (nI lo) (nI hi) c = some (r, c') ∧ f7_checkNumber (nI lo) (nI hi) c = some c' ∧ f12_number (nI lo) (nI hi) m = some (0, m') ∧ FCl t c0 f s c' ∧ FRf m0 f s m') := by
  have hf0 := h.2.1.1
  have hx := h.1.2.2.2.2.2.2.2.2.1
  have tk := h.1.2.2.2.2.2.2.2.1
  have bz0' : bz 0 = true := by decide
  by_cases x2 : x = 2
  · subst x2
    obtain ⟨t1, t2, t3, t4, b, t5, t6, t7⟩ := tk
    by_cases inr : lo ≤ a ∧ a ≤ hi
    · have hb : b = a := by omega
      subst hb
      -- both go on
      have h' : RB T E t c0 m0 D D2 p s 2 b c (wI m 0 11 (nI b)) := by
        obtain ⟨h1, ⟨f1, f2, f3, f4⟩, r, d1, d2, w, z, g1, g2⟩ := h
        exact ⟨h1.mv (fun _ => rfl) (fun _ => rfl) (fun k _ _ => wI_o (by omega)) (fun _ => wI_o (by omega)) (fun _ => wI_o (by omega)), ⟨f1, f2, (wI_o (by omega)).trans f3, (wI_o (by omega)).trans f4⟩, r, d1, d2.fr (fun q k n => wI_o (by omega)), w, z, g1, g2.w (by unfold rdM; omega)⟩
      obtain ⟨c', m', p', s', x', a', e1, e2, k, hp, fc, fm⟩ := h'.next
      have l1 : ¬ nI b < nI lo := nI_nlt inr.1 (by omega)
      have l2 : ¬ nI hi < nI b := nI_nlt inr.2 (by omega)
      have ck : f7_checkNumber (nI lo) (nI hi) c = some c := by
        simp only [f7_checkNumber, t1, if_true, f7_checkNumber_17, f7_check, one_ne, if_false, Option.bind_some, t4, l1, l2, f7_checkNumber_49]
      refine Or.inl ⟨b, c', m', p', s', x', a', inr.1, inr.2, ?_, ?_, (fm.1 _ _ (by omega)).trans wI_s, k, hp, fc, fm, ck, t4⟩
      · simp only [f7_takeNumber, lt, ck, Option.bind_some, hf0, if_true, e1, t4]
      · simp only [f12_number, t2, if_true, t5, isIn_eq, wi, l1, l2, if_false, Option.bind_some, one_ne, lt, e2]
    · -- too small or too large
      obtain ⟨c', m', e1, e2, k1, k2⟩ := h.fail (f := 2) (by omega)
      have e1 : f7_fail 2 c = some c' := e1
      have e2 : f12_wrong 2 m = some (0, m') := e2
      have ck : f7_checkNumber (nI lo) (nI hi) c = some c' := by
        by_cases z : a < lo
        · simp only [f7_checkNumber, t1, if_true, f7_checkNumber_17, f7_check, one_ne, if_false, Option.bind_some, t4, nI_lt z (show lo < 2 ^ 31 by omega), f7_checkNumber_48, f7_checkNumber_49, e1]
        · have z1 : ¬ nI a < nI lo := nI_nlt (by omega) (by omega)
          have z2 : nI hi < nI a := nI_lt (by omega) (by omega)
          simp only [f7_checkNumber, t1, if_true, f7_checkNumber_17, f7_check, one_ne, if_false, Option.bind_some, t4, z1, z2, f7_checkNumber_48, f7_checkNumber_49, e1]
      refine Or.inr ⟨2, c', m', c.1 1 6, ?_, ck, ?_, k1, k2⟩
      · simp only [f7_takeNumber, lt, ck, Option.bind_some, k1.ne, if_false]
      · have hw : wi (nI b) (nI lo) (nI hi) = 0 := by
          unfold wi
          by_cases z : b < lo
          · rw [if_pos (nI_lt z (by omega))]
          · rw [if_neg (nI_nlt (by omega) (by omega)), if_pos (nI_lt (by omega) (by omega))]
        simp only [f12_number, t2, if_true, t5, isIn_eq, hw, Option.bind_some, e2, gd, bz0']
  · -- no number
    obtain ⟨c', m', e1, e2, k1, k2⟩ := h.fail (f := 1) (by omega)
    have e1 : f7_fail 1 c = some c' := e1
    have e2 : f12_wrong 1 m = some (0, m') := e2
    have nk : ¬ c.1 1 5 = 2 ∧ ¬ m.1 0 8 = 3 := by
      have cs : x = 0 ∨ x = 1 ∨ x = 3 ∨ x = 4 ∨ x = 5 := by omega
      rcases cs with rfl | rfl | rfl | rfl | rfl
      · obtain ⟨t1, t2⟩ := tk
        rw [t1, t2]; decide
      · obtain ⟨t1, t2, t3, t4⟩ := tk
        rcases t4 with ⟨w, hw, ew, u1, u2⟩ | ⟨hn, u1, u2⟩
        · rw [t1, u1]; decide
        · rw [t1, u1]; decide
      · obtain ⟨t1, t2, -⟩ := tk
        rw [t1, t2]; decide
      · obtain ⟨t1, t2, -⟩ := tk
        rw [t1, t2]; decide
      · obtain ⟨t1, t2⟩ := tk
        rcases t2 with t2 | ⟨t2, -⟩
        · rw [t1, t2]; decide
        · rw [t1, t2]; decide
    have ck : f7_checkNumber (nI lo) (nI hi) c = some c' := by
      simp only [f7_checkNumber, nk.1, if_false, f7_checkNumber_17, f7_check, if_true, e1, Option.bind_some, f7_checkNumber_48, f7_checkNumber_49, k1.fail, one_ne, ite_self]
    refine Or.inr ⟨1, c', m', c.1 1 6, ?_, ck, ?_, k1, k2⟩
    · simp only [f7_takeNumber, lt, ck, Option.bind_some, k1.ne, if_false]
    · simp only [f12_number, nk.2, if_false, e2, Option.bind_some, gd, bz0', if_true]
end READ
