/-! A text is taken: the class's side. -/
def newS (D : Sp) : Sp := fun a b => if a = 0 then (if b = 5 then D 0 8 else if b ≤ 3 ∨ b = 7 then D 0 b else 0) else if a = 3 ∨ a = 6 ∨ a = 8 ∨ a = 9 then 0 else D a b
theorem nS_o {D : Sp} {a b : Nat} (h : ¬ a = 0) (h2 : ¬ (a = 3 ∨ a = 6 ∨ a = 8 ∨ a = 9)) : newS D a b = D a b := by
  unfold newS; rw [if_neg h, if_neg h2]
theorem nS_z {D : Sp} {a b : Nat} (h2 : a = 3 ∨ a = 6 ∨ a = 8 ∨ a = 9) : newS D a b = 0 := by
  unfold newS; rw [if_neg (by omega), if_pos h2]
theorem nS_0 {D : Sp} {b : Nat} (h : b ≤ 3 ∨ b = 7) : newS D 0 b = D 0 b := by
  unfold newS; rw [if_pos rfl, if_neg (by omega), if_pos h]
theorem nS_5 {D : Sp} : newS D 0 5 = D 0 8 := by
  unfold newS; rw [if_pos rfl, if_pos rfl]
theorem nS_n {D : Sp} {b : Nat} (h : ¬ (b ≤ 3 ∨ b = 7)) (h5 : ¬ b = 5) : newS D 0 b = 0 := by
  unfold newS; rw [if_pos rfl, if_neg h5, if_neg h]
theorem pinN_new {D : Sp} {i : Nat} : pinN (newS D) i = pinN D i := by
  unfold pinN
  exact cnt_congr (fun k _ => by rw [nS_o (by omega) (by omega)])
theorem wfNow_new {D : Sp} (w : wfD D) : wfNow (newS D) := by
  obtain ⟨w1, w2, w3, w4, w5, w6, w7, w8, w9, w10, w11⟩ := w
  have z4 : newS D 0 4 = 0 := nS_n (by omega) (by omega)
  have z0 : newS D 0 0 = D 0 0 := nS_0 (by omega)
  refine ⟨by rw [z0]; exact w1, by rw [z4]; omega, by rw [nS_5]; omega, by rw [nS_n (by omega) (by omega)]; exact Nat.zero_le _, fun i hi => ?_⟩
  rw [z0] at hi
  obtain ⟨a1, a2, a3, a4, a5, a6⟩ := w9 i hi
  refine ⟨?_, ?_, ?_, ?_, ?_, ?_, ?_, ?_, fun k hk => ?_⟩
  · rw [nS_o (by omega) (by omega)]; exact a1
  · rw [nS_o (by omega) (by omega)]; exact a2
  · rw [nS_z (by omega)]; exact Nat.zero_le _
  · rw [nS_o (by omega) (by omega)]; exact a3
  · rw [nS_o (by omega) (by omega)]; exact a4
  · rw [nS_z (by omega)]; exact Nat.zero_le _
  · rw [nS_z (by omega)]; exact Nat.zero_le _
  · rw [nS_z (by omega)]; exact Nat.zero_le _
  · rw [nS_o (by omega) (by omega)]; exact a6 k hk
theorem setOut_c {D : Sp} {t : Nat} {c : Hp} (w : wfD D) (ht : t = 55 ∨ t = 78) (d : drC D t c) (z : zT t c) : ∃ c', f9_setOut 6 t c = some c' ∧ nowC (newS D) c' ∧ (∀ x k, ¬ (6 ≤ x ∧ x ≤ 19) → c'.1 x k = c.1 x k) ∧ c'.2 = c.2 := by
  have hn : D 0 0 ≤ 6 := w.1
  obtain ⟨⟨d1, d2, d3, d4, d5, d6, d7, d8, d9⟩, db, -, -⟩ := d
  have bxn : ∀ i, i < D 0 0 → boxC (newS D) i (t + 1 + 1 + 2 * i) c := fun i hi => by
    obtain ⟨b1, b2, b3, b4, b5, b6, b7⟩ := db i hi
    obtain ⟨z1, z2, z3, z4⟩ := z i (by omega)
    refine ⟨?_, ?_, ?_, ?_, ?_, ?_, ?_, ?_, ?_, fun k hk => ?_⟩
    · rw [nS_o (by omega) (by omega)]; exact b2
    · rw [pinN_new]; exact b3
    · rw [nS_o (by omega) (by omega)]; exact b4
    · rw [nS_o (by omega) (by omega)]; exact b5
    · rw [nS_z (by omega)]; exact z1
    · rw [nS_z (by omega)]; exact z2
    · rw [nS_z (by omega)]; exact z3
    · rw [nS_o (by omega) (by omega)]; exact b6
    · rw [nS_z (by omega)]; exact z4
    · rw [nS_o (by omega) (by omega)]; exact b7 k hk
  obtain ⟨k, e, e1, o, e2, hb⟩ := lp_cnt (f := fun z : Int32 × Hp => f9_setOut_10_s 6 t z.1 z.2) (fun n c' => c'.1 6 1 = nI (D 0 0) ∧ (∀ x k, ¬ (6 ≤ x ∧ x ≤ 19) → c'.1 x k = c.1 x k) ∧ c'.2 = c.2 ∧ ∀ i, i < n → boxC (newS D) i (8 + 2 * i) c') 0 (D 0 0) (fun n k _ hi ⟨e1, o, e2, hb⟩ => by
    have bq : boxC (newS D) n (t + 1 + 1 + 2 * n) k := (bxn n hi).fr (fun j => o _ _ (by omega)) (fun j => o _ _ (by omega))
    obtain ⟨k', f, fo, f2, fa, fb⟩ := copyBox (h := k) (p := 6 + 1 + 1 + 2 * n) (q := t + 1 + 1 + 2 * n) (by omega) (by omega) (by omega) (by rw [bq.2.2.2.2.2.2.2.2.1, nS_z (by omega)]; decide)
    refine ⟨k', ?_, (fo _ _ (by omega) (by omega)).trans e1, fun x j hx => (fo _ _ (by omega) (by omega)).trans (o x j hx), f2.trans e2, fun i hi => ?_⟩
    · simp only [f9_setOut_10_s, e1, nI_ge hi (show D 0 0 < 2 ^ 31 by omega), if_false, gd, inb_t (show n < 6 by omega) (by omega), if_true, ix_nI (show n < 2 ^ 31 by omega), f, Option.bind_some, nI_1]
    · by_cases z : i = n
      · subst z
        have e8 : 6 + 1 + 1 + 2 * i = 8 + 2 * i := by omega
        rw [e8] at fa fb
        exact bq.copy fa fb
      · exact (hb i (by omega)).fr (fun j => fo _ _ (by omega) (by omega)) (fun j => fo _ _ (by omega) (by omega))) (D 0 0) 0 (wI c 6 1 (nI (D 0 0))) (Nat.zero_le _) (Nat.zero_add _) ⟨wI_s, fun x j hx => wI_o (by omega), rfl, fun i hi => absurd hi (Nat.not_lt_zero i)⟩
  have k10 : (wI k 6 2 0).1 t 10 = nI (D 0 8) := by rw [wI_o (by omega), o _ _ (by omega)]; exact d6
  obtain ⟨C, eC⟩ : ∃ C, C = wI (wI (wI k 6 2 0) 6 3 (nI (D 0 8))) 6 4 0 := ⟨_, rfl⟩
  have oC : ∀ q j, ¬ (q = 6 ∧ 2 ≤ j ∧ j ≤ 4) → C.1 q j = k.1 q j := fun q j n => by rw [eC, wI_o (by omega), wI_o (by omega), wI_o (by omega)]
  refine ⟨C, ?_, ⟨?_, ?_, ?_, ?_, fun i hi => ?_⟩, fun x j hx => ?_, ?_⟩
  · have e0 : f9_setOut 6 t c = lp (fun z : Int32 × Hp => f9_setOut_10_s 6 t z.1 z.2) (nI 0, wI c 6 1 (nI (D 0 0))) := by
      simp only [f9_setOut, lt, d1]; rfl
    rw [e0, e]
    refine lp_inr (o := some C) ?_
    have eC' : wI (wI (wI k 6 2 0) 6 3 (nI (D 0 8))) 6 4 0 = C := eC.symm
    simp only [f9_setOut_10_s, e1, nI_le (Nat.le_refl (D 0 0)) (show D 0 0 < 2 ^ 31 by omega), if_true, f9_setOut_39, lt, k10, eC', Option.map_some]
  · rw [oC _ _ (by omega), nS_0 (by omega)]; exact e1
  · rw [nS_n (by omega) (by omega), eC, wI_o (by omega), wI_o (by omega), wI_s]; rfl
  · rw [nS_5, eC, wI_o (by omega), wI_s]
  · rw [nS_n (by omega) (by omega), eC, wI_s]; rfl
  · rw [nS_0 (by omega)] at hi
    exact (hb i hi).fr (fun j => oC _ _ (by omega)) (fun j => oC _ _ (by omega))
  · rw [oC _ _ (by omega)]; exact o x j hx
  · rw [eC]; exact e2
