/-! Reading a text: its start. -/
def frX (t : Nat) (c c' : Hp) : Prop := (∀ q k, ¬ (q = 1 ∧ 2 ≤ k ∧ k ≤ 6) → ¬ (q = 3 ∧ (k = 3 ∨ k = 4)) → ¬ q = 4 → ¬ q = 5 → ¬ (t ≤ q ∧ q ≤ t + 22) → c'.1 q k = c.1 q k) ∧ ∀ q k, ¬ (q = 4 ∧ k = 2) → ¬ (q = 3 ∧ k = 2) → c'.2.2 q k = c.2.2 q k
def rdX (q k : Nat) : Prop := rdM q k ∨ (q = 0 ∧ (k = 1 ∨ k = 2 ∨ k = 6))
def frYt (m m' : Hp) : Prop := (∀ q k, ¬ rdX q k → m'.1 q k = m.1 q k) ∧ m'.2 = m.2
theorem frX.q {t : Nat} {a b c : Hp} (h : frX t a b) (h' : frQ t b c) : frX t a c := ⟨fun q k n1 n2 n3 n4 n5 => (h'.1 q k (by omega) n2 n3 n4 n5).trans (h.1 q k n1 n2 n3 n4 n5), fun q k n n' => (h'.2 q k n).trans (h.2 q k n n')⟩
theorem frYt.s {a b c : Hp} (h : frYt a b) (h' : frS b c) : frYt a c := ⟨fun q k n => (h'.1 q k (fun z => n (Or.inl z))).trans (h.1 q k n), h'.2.trans h.2⟩
theorem wfD0 : wfD D0 := ⟨Nat.zero_le _, Nat.zero_le _, Nat.zero_le _, Nat.zero_le _, Nat.zero_le _, Nat.zero_le _, Nat.zero_le _, Nat.zero_le _, fun i hi => absurd hi (Nat.not_lt_zero i), fun i hi => absurd hi (Nat.not_lt_zero i), Nat.zero_le _, fun l _ => ⟨Nat.le_refl _, Nat.le_refl _, fun d hd => absurd hd (Nat.not_lt_zero d), fun h => absurd h (Nat.not_lt_zero _)⟩⟩
theorem wR_s {h : Hp} {p k : Nat} {v : Option Nat} : (wR h p k v).2.2 p k = v := by
  show up2 h.2.2 p k v p k = v
  exact up2_s
theorem wR_o {h : Hp} {p k q j : Nat} {v : Option Nat} (e : ¬ (q = p ∧ j = k)) : (wR h p k v).2.2 q j = h.2.2 q j := by
  show up2 h.2.2 p k v q j = h.2.2 q j
  exact up2_of e
section START
variable {S : Sp} {t n : Nat} {c m : Hp}
theorem text_start (w : wfTap S) (hC : tapC S c) (hM : tapM S m) (hw : wrdM m) (ht : t = 55 ∨ t = 78) (hz : zT t c) (hn : n ≤ S 0 9) : ∃ c' m' p s x a, f7_readAll t (nI n) c = f7_readAll_32 0 c' ∧ f12_text (nI n) m = f12_text_55 0 m' ∧ RB (S 14) n t c' m' D0 D0 p s x a c' m' ∧ c'.1 t 11 = 0 ∧ frX t c c' ∧ frYt m m' ∧ m'.1 0 1 = 0 ∧ m'.1 0 2 = 0 ∧ c'.2.2 3 2 = some t := by
  have h9 : S 0 9 ≤ 700 := w.1
  obtain ⟨c1, e1⟩ : ∃ c1, c1 = wR c 3 2 (some t) := ⟨_, rfl⟩
  have r1 : c1.2.2 3 2 = some t := by rw [e1]; exact wR_s
  have z1 : c1.1 = c.1 := by rw [e1]; rfl
  obtain ⟨c2, e2, f2, d2, d11, o2⟩ := clear_dr (c := c1) ht
  obtain ⟨c3, e3⟩ : ∃ c3, c3 = wI (wI c2 3 3 0) 3 4 (-1) := ⟨_, rfl⟩
  have o3 : ∀ q k, ¬ (q = 3 ∧ (k = 3 ∨ k = 4)) → c3.1 q k = c2.1 q k := fun q k n => by rw [e3, wI_o (by omega), wI_o (by omega)]
  have held : c3.1 1 1 = nI (S 0 9) := by rw [o3 _ _ (by omega), o2 _ _ (by omega) (by omega), z1]; exact hC.1
  have mn : (if c3.1 1 1 < nI n then c3.1 1 1 else nI n : Int32) = nI n := by
    rw [held, if_neg (nI_nlt hn (by omega))]
  obtain ⟨c4, e4⟩ : ∃ c4, c4 = wI (wI c3 1 2 (nI n)) 1 3 0 := ⟨_, rfl⟩
  have o4 : ∀ q k, ¬ (q = 1 ∧ (k = 2 ∨ k = 3)) → c4.1 q k = c3.1 q k := fun q k n => by rw [e4, wI_o (by omega), wI_o (by omega)]
  have p4 : c4.2 = c1.2 := by rw [e4, e3]; exact f2
  obtain ⟨m1, g1⟩ : ∃ m1, m1 = wI (wI (wI (wI (wI (wI m 0 2 0) 0 6 (nI n)) 0 1 0) 0 4 0) 0 5 (-1)) 0 7 0 := ⟨_, rfl⟩
  have o1 : ∀ q k, ¬ (q = 0 ∧ (k = 1 ∨ k = 2 ∨ 4 ≤ k ∧ k ≤ 7)) → m1.1 q k = m.1 q k := fun q k n => by rw [g1, wI_o (by omega), wI_o (by omega), wI_o (by omega), wI_o (by omega), wI_o (by omega), wI_o (by omega)]
  have y2 : m1.1 0 2 = 0 := by rw [g1, wI_o (by omega), wI_o (by omega), wI_o (by omega), wI_o (by omega), wI_o (by omega), wI_s]
  have y6 : m1.1 0 6 = nI n := by rw [g1, wI_o (by omega), wI_o (by omega), wI_o (by omega), wI_o (by omega), wI_s]
  have y1 : m1.1 0 1 = 0 := by rw [g1, wI_o (by omega), wI_o (by omega), wI_o (by omega), wI_s]
  have y4 : m1.1 0 4 = 0 := by rw [g1, wI_o (by omega), wI_o (by omega), wI_s]
  have y5 : m1.1 0 5 = -1 := by rw [g1, wI_o (by omega), wI_s]
  have y7 : m1.1 0 7 = 0 := by rw [g1, wI_s]
  obtain ⟨m2, g2, k2, dm, om⟩ := plain_dr (m := m1)
  have om' : ∀ q k, q = 0 ∧ k ≤ 10 ∨ q = 1 ∨ q = 2 → m2.1 q k = m1.1 q k := fun q k z => om q k (by unfold plS; omega)
  have tp : tap (S 14) n c4 m2 := by
    refine ⟨by omega, by rw [e4, wI_o (by omega), wI_s], by rw [om' _ _ (by omega)]; exact y6, fun i hi => ⟨w.2 i (by omega), ?_, ?_⟩, fun j hj => ?_⟩
    · rw [o4 _ _ (by omega), o3 _ _ (by omega), o2 _ _ (by omega) (by omega), z1]; exact hC.2 i (by omega)
    · rw [om' _ _ (by omega), o1 _ _ (by omega)]; exact hM.2 i (by omega)
    · rw [om' _ _ (by omega), o1 _ _ (by omega)]; exact hw j hj
  have c43 : c4.1 1 3 = nI 0 := by rw [e4, wI_s]; rfl
  have m27 : m2.1 0 7 = nI 0 := by rw [om' _ _ (by omega)]; exact y7
  obtain ⟨c', m', p, s, x, a, n1, n2, k, hp, fc, fm⟩ := next_both tp c43 m27 (Nat.zero_le _)
  refine ⟨c', m', p, s, x, a, ?_, ?_, ⟨k, ⟨?_, ?_, ?_, ?_⟩, ⟨?_, ht⟩, ?_, ?_, wfD0, ?_, frR.rf, frS.rf⟩, ?_, ⟨fun q k n1 n2 n3 n4 n5 => ?_, fun q k n n' => ?_⟩, ⟨fun q k n => ?_, ?_⟩, ?_, ?_, ?_⟩
  · have hkd := kd10 ht
    have e3' : wI (wI c2 3 3 0) 3 4 (-1) = c3 := e3.symm
    have e4' : wI (wI c3 1 2 (nI n)) 1 3 0 = c4 := e4.symm
    have e1' : wR c 3 2 (some t) = c1 := e1.symm
    simp only [f7_readAll, lt, e1', r1, Option.bind_some, gd, hkd, if_true, e2, e3', f8_begin, mn, e4', n1]
  · have l0 : ¬ nI n < 0 := by rw [lit]; exact nI_nlt (Nat.zero_le _) (by omega)
    have l1 : nI n ≤ (wI m 0 2 0).1 0 1 := by rw [wI_o (by omega), hM.1]; exact nI_le hn (by omega)
    have g1' : wI (wI (wI (wI (wI (wI m 0 2 0) 0 6 (nI n)) 0 1 0) 0 4 0) 0 5 (-1)) 0 7 0 = m1 := g1.symm
    simp only [f12_text, lt, l0, l1, if_false, if_true, g1', g2, Option.bind_some, n2]
  · rw [fc.1 _ _ (by omega), o4 _ _ (by omega), e3, wI_o (by omega), wI_s]
  · rw [fc.1 _ _ (by omega), o4 _ _ (by omega), e3, wI_s]
  · rw [fm.1 _ _ (by omega), om' _ _ (by omega)]; exact y4
  · rw [fm.1 _ _ (by omega), om' _ _ (by omega)]; exact y5
  · rw [fc.2, p4]; exact r1
  · exact d2.fr (fun q k z => by
      have z0 : D0 0 0 = 0 ∧ D0 0 3 = 0 ∧ D0 0 1 = 0 := ⟨rfl, rfl, rfl⟩
      rw [fc.1 _ _ (by omega), o4 _ _ (by omega), o3 _ _ (by omega)])
  · exact dm.fr (fun q k z => fm.1 _ _ (by omega))
  · have oz : ∀ i k, i < 6 → c'.1 (t + 1 + 1 + 2 * i) k = c.1 (t + 1 + 1 + 2 * i) k := fun i k hi => by
      rw [fc.1 _ _ (by omega), o4 _ _ (by omega), o3 _ _ (by omega), o2 _ _ (by omega) (by omega), z1]
    intro i hi
    rw [oz i _ hi, oz i _ hi, oz i _ hi, oz i _ hi]
    exact hz i hi
  · rw [fc.1 _ _ (by omega), o4 _ _ (by omega), o3 _ _ (by omega)]; exact d11
  · rw [fc.1 _ _ (by omega), o4 _ _ (by omega), o3 _ _ (by omega), o2 _ _ (by omega) (by omega), z1]
  · rw [fc.2, p4, e1]
    exact wR_o (by omega)
  · unfold rdX rdM at n
    rw [fm.1 _ _ (by omega), om q k (by unfold plS; omega), o1 _ _ (by omega)]
  · rw [fm.2, k2, g1]; rfl
  · rw [fm.1 _ _ (by omega), om' _ _ (by omega)]; exact y1
  · rw [fm.1 _ _ (by omega), om' _ _ (by omega)]; exact y2
  · rw [fc.2, p4]; exact r1
end START
