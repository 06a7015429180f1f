/-! The call text. -/
section TX
variable {S D : Sp} {t u j : Nat} {c m : Hp}
theorem drM_bz (d : drM D m) : ∀ k, k < 3 → bz (m.1 14 (3 + k)) = true := fun k hk => by
  rw [(d.2.2.2.2.2 k hk).1]
  by_cases z : D 42 k < D 43 k
  · rw [if_pos z]; decide
  · rw [if_neg z]; decide
/-- the reference has taken a text -/
theorem took_m (w : wfD D) (d : drM D m) (hw : wrdM m) (f0 : m.1 0 1 = 0 ∧ m.1 0 4 = 0 ∧ m.1 0 5 = -1) : ∃ m', f12_keepText m = some m' ∧ (nowM (newS D) m' ∧ toldM (newS D) m' ∧ lawM (newS D) m' ∧ fndM (newS D) m' ∧ undM (newS D) m' ∧ imgM (newS D) m' ∧ tapM (newS D) m' ∧ fltM (newS D) m') ∧ bzM m' ∧ wrdM m' := by
  obtain ⟨m', e, ⟨k1, k2, k3, k4⟩, kq, kb, ⟨l1, l2, l3, l4, l5, l6⟩, kj, ko⟩ := keepT_m (drM_bz d)
  obtain ⟨⟨a1, a2, a3, a4, a5, a6, a7, a8, a9, a10⟩, b, -, g, l, lw⟩ := d
  obtain ⟨w1, w2, w3, w4, w5, w6, w7, w8, w9, w10, w11⟩ := w
  have h3 : D 0 3 ≤ 64 := w11.1
  have n4 : lnM 4 / 2 = 2 := by decide +kernel
  have n5 : lnM 5 / 2 = 6 := by decide +kernel
  have n7 : lnM 7 / 2 = 6 := by decide +kernel
  have n8 : lnM 8 / 2 = 48 := by decide +kernel
  have n10 : lnM 10 / 2 = 6 := by decide +kernel
  have n11 : lnM 11 / 2 = 5 := by decide +kernel
  have n12 : lnM 12 / 2 = 5 := by decide +kernel
  have n13 : lnM 13 / 2 = 5 := by decide +kernel
  have n14 : lnM 14 / 2 = 3 := by decide +kernel
  have n15 : lnM 15 / 2 = 3 := by decide +kernel
  have n16 : lnM 16 / 2 = 3 := by decide +kernel
  have n17 : lnM 17 / 2 = 64 := by decide +kernel
  have n18 : lnM 18 / 2 = 64 := by decide +kernel
  have n19 : lnM 19 / 2 = 64 := by decide +kernel
  have q4 := kq 4 (by omega) (by omega)
  have q5 := kq 5 (by omega) (by omega)
  have q7 := kq 7 (by omega) (by omega)
  have q8 := kq 8 (by omega) (by omega)
  have q10 := kq 10 (by omega) (by omega)
  have q11 := kq 11 (by omega) (by omega)
  have q12 := kq 12 (by omega) (by omega)
  have q13 := kq 13 (by omega) (by omega)
  have q14 := kq 14 (by omega) (by omega)
  have q15 := kq 15 (by omega) (by omega)
  have q16 := kq 16 (by omega) (by omega)
  have q17 := kq 17 (by omega) (by omega)
  have q18 := kq 18 (by omega) (by omega)
  have q19 := kq 19 (by omega) (by omega)
  rw [n4] at q4
  rw [n5] at q5
  rw [n7] at q7
  rw [n8] at q8
  rw [n10] at q10
  rw [n11] at q11
  rw [n12] at q12
  rw [n13] at q13
  rw [n14] at q14
  rw [n15] at q15
  rw [n16] at q16
  rw [n17] at q17
  rw [n18] at q18
  rw [n19] at q19
  have z0 : newS D 0 0 = D 0 0 := nS_0 (by omega)
  have z1 : newS D 0 1 = D 0 1 := nS_0 (by omega)
  have z2 : newS D 0 2 = D 0 2 := nS_0 (by omega)
  have z3 : newS D 0 3 = D 0 3 := nS_0 (by omega)
  have z7 : newS D 0 7 = D 0 7 := nS_0 (by omega)
  have z4 : newS D 0 4 = 0 := nS_n (by omega) (by omega)
  have z6 : newS D 0 6 = 0 := nS_n (by omega) (by omega)
  have z9 : newS D 0 9 = 0 := nS_n (by omega) (by omega)
  have z10 : newS D 0 10 = 0 := nS_n (by omega) (by omega)
  have z11 : newS D 0 11 = 0 := nS_n (by omega) (by omega)
  have z12 : newS D 0 12 = 0 := nS_n (by omega) (by omega)
  have z13 : newS D 0 13 = 0 := nS_n (by omega) (by omega)
  have z14 : newS D 0 14 = 0 := nS_n (by omega) (by omega)
  have z15 : newS D 0 15 = 0 := nS_n (by omega) (by omega)
  refine ⟨m', e, ⟨⟨?_, ?_, ?_, ?_, fun i hi => ?_⟩, ⟨?_, ?_, ?_, ?_, fun i hi => ?_, fun x hx => ?_⟩, ⟨fun i hi => ?_, fun x hx => ?_⟩, ⟨?_, ?_, fun i hi => ?_⟩, ⟨?_, fun i _ hi _ => ?_⟩, ⟨?_, fun z => ?_⟩, ⟨?_, fun i hi => ?_⟩, ⟨?_, ?_⟩⟩, fun i hi => ?_, fun i hi => ?_⟩
  · rw [k1, z0]; exact a1
  · rw [l1, z4]; rfl
  · rw [kj, a10, nS_5, nI_l (by omega)]
  · rw [l2, z6]; rfl
  · rw [z0] at hi
    obtain ⟨b1, b2, b3, b4, b5, b6⟩ := b i hi
    obtain ⟨c1, c2, c3, c4, c5, c6⟩ := kb i (by omega)
    refine ⟨?_, ?_, ?_, ?_, ?_, ?_, ?_, ?_, fun k hk => ?_⟩
    · rw [nS_o (by omega) (by omega), q7 i (by omega)]; exact b3
    · rw [nS_o (by omega) (by omega), q10 i (by omega)]; exact b5
    · rw [nS_o (by omega) (by omega), c1]; exact b2
    · rw [nS_z (by omega), c2]; rfl
    · rw [nS_z (by omega), c3]; rfl
    · rw [nS_z (by omega), c4]; rfl
    · rw [nS_o (by omega) (by omega), c6]; exact b4
    · rw [nS_z (by omega), c5]; rfl
    · rw [nS_o (by omega) (by omega), q8 _ (by omega), ← Nat.add_assoc]; exact b6 k hk
  · rw [k3, z1]; exact a4
  · rw [k2, z2]; exact a3
  · rw [k4, z3]; exact a5
  · rw [z7, q4 0 (by omega)]; exact a9
  · rw [z0] at hi
    rw [nS_o (by omega) (by omega), q5 i (by omega)]; exact (b i hi).1
  · rw [z1] at hx
    rw [nS_o (by omega) (by omega), nS_o (by omega) (by omega), nS_o (by omega) (by omega), q11 x (by omega), q12 x (by omega), q13 x (by omega)]
    exact g x hx
  · rw [z3] at hi
    rw [nS_o (by omega) (by omega), nS_o (by omega) (by omega), nS_o (by omega) (by omega), q17 i (by omega), q18 i (by omega), q19 i (by omega)]
    exact l i hi
  · rw [nS_o (by omega) (by omega), nS_o (by omega) (by omega), q14 x hx, q15 x hx, q16 x hx]
    exact lw x hx
  · rw [z14, l3]; rfl
  · rw [z15, l4]; rfl
  · rw [z14] at hi; exact absurd hi (Nat.not_lt_zero i)
  · rw [z12, l5]; rfl
  · rw [z12] at hi; exact absurd hi (Nat.not_lt_zero i)
  · rw [z13, l6]; rfl
  · rw [z13] at z; exact absurd z (by decide)
  · rw [z9, ko _ _ (by omega)]; exact f0.1
  · rw [z9] at hi; exact absurd hi (Nat.not_lt_zero i)
  · rw [z10, ko _ _ (by omega)]; exact f0.2.1
  · rw [z11, ko _ _ (by omega)]; exact f0.2.2
  · rw [(kb i hi).2.2.2.2.1]; decide
  · rw [ko _ _ (by omega)]; exact hw i hi
theorem wf_new (w : wfD D) : wfNow (newS D) ∧ wfTold (newS D) ∧ wfLaws (newS D) ∧ wfFnd (newS D) ∧ wfUnd (newS D) ∧ wfImg (newS D) ∧ wfTap (newS D) := by
  have w0 := wfNow_new w
  obtain ⟨w1, w2, w3, w4, w5, w6, w7, w8, w9, w10, w11⟩ := w
  have z1 : newS D 0 1 = D 0 1 := nS_0 (by omega)
  have z2 : newS D 0 2 = D 0 2 := nS_0 (by omega)
  have z3 : newS D 0 3 = D 0 3 := nS_0 (by omega)
  have z7 : newS D 0 7 = D 0 7 := nS_0 (by omega)
  have z9 : newS D 0 9 = 0 := nS_n (by omega) (by omega)
  have z12 : newS D 0 12 = 0 := nS_n (by omega) (by omega)
  have z13 : newS D 0 13 = 0 := nS_n (by omega) (by omega)
  have z14 : newS D 0 14 = 0 := nS_n (by omega) (by omega)
  have z15 : newS D 0 15 = 0 := nS_n (by omega) (by omega)
  refine ⟨w0, ⟨by rw [z1]; exact w2, by rw [z2]; exact w3, by rw [z3]; exact w11.1, by rw [z7]; exact w5, fun g hg => ?_⟩, w11.cg z3 (fun a b h1 h2 => nS_o (by omega) (by omega)), ⟨by rw [z14]; exact Nat.zero_le _, by unfold kb; rw [z15, if_pos rfl]; exact Nat.le_refl _, fun i hi => ?_⟩, ⟨by rw [z12]; exact Nat.zero_le _, fun i hi => ?_⟩, ⟨by rw [z13]; exact Nat.zero_le _, fun z => ?_⟩, by rw [z9]; exact Nat.zero_le _, fun i hi => ?_⟩
  · rw [z1] at hg
    rw [nS_o (by omega) (by omega), nS_o (by omega) (by omega)]; exact w10 g hg
  · rw [z14] at hi; exact absurd hi (Nat.not_lt_zero i)
  · rw [z12] at hi; exact absurd hi (Nat.not_lt_zero i)
  · rw [z13] at z; exact absurd z (by decide)
  · rw [z9] at hi; exact absurd hi (Nat.not_lt_zero i)
/-- what the class does behind a text that was read -/
theorem took_c (w : wfD D) (hu : u = 55 ∨ u = 78) (ht : t = 133 - u) (d : drC D u c) (zu : zT u c) (zt : zT t c) (f0 : c.1 3 3 = 0 ∧ c.1 3 4 = -1) (r1 : c.2.2 0 11 = some t) (r2 : c.2.2 0 12 = some u) (h11 : c.1 u 11 = nI j) : ∃ c', (lt (wI c 1 1 0) fun h6 => if h6.1 3 3 = 0 then ((h6.2.2 0 11).bind fun p8 => gd (decide (kdC p8 = 10)) <| (h6.2.2 0 12).bind fun p10 => gd (decide (kdC p10 = 10)) <| lt (wR h6 0 11 (some p10)) fun h12 => lt (wR h12 0 12 (some p8)) fun h13 => (h13.2.2 0 11).bind fun p14 => gd (decide (kdC p14 = 10)) <| (f9_setOut 6 p14 h13).bind fun h16 => (f3_clear h16).bind fun h17 => (f1_clear h17).bind fun h18 => lt (wI h18 0 13 0) fun h19 => (h19.2.2 0 11).bind fun p20 => gd (decide (kdC p20 = 10)) <| some (h19.1 p20 11, h19)) else (some ((-1), h6))) = some (nI j, c') ∧ (nowC (newS D) c' ∧ toldC (newS D) u c' ∧ lawC (newS D) u c' ∧ fndC (newS D) c' ∧ undC (newS D) c' ∧ imgC (newS D) c' ∧ tapC (newS D) c' ∧ fltC (newS D) c') ∧ (zT 55 c' ∧ zT 78 c' ∧ c'.2.2 0 12 = some (133 - u)) := by
  have hku := kd10 hu
  have hkt : decide (kdC t = 10) = true := kd10 (by omega)
  have hn : D 0 0 ≤ 6 := w.1
  obtain ⟨C, eC⟩ : ∃ C, C = wR (wR (wI c 1 1 0) 0 11 (some u)) 0 12 (some t) := ⟨_, rfl⟩
  have oC : ∀ q k, ¬ (q = 1 ∧ k = 1) → C.1 q k = c.1 q k := fun q k n => by
    rw [eC]; exact wI_o n
  have rC1 : C.2.2 0 11 = some u := by rw [eC]; exact (wR_o (by omega)).trans wR_s
  have rC2 : C.2.2 0 12 = some t := by rw [eC]; exact wR_s
  have dC : drC D u C := d.fr (fun q k z => oC q k (by omega))
  obtain ⟨E, eE, nE, oE, pE⟩ := setOut_c w hu dC (zu.fr (fun q k a b _ => oC q k (by omega)))
  obtain ⟨F, eF⟩ : ∃ F, F = wI (wI (wI (wI E 39 5 0) 39 6 (-1)) 34 4 0) 0 13 0 := ⟨_, rfl⟩
  have oF : ∀ q k, ¬ (q = 39 ∧ (k = 5 ∨ k = 6)) → ¬ (q = 34 ∧ k = 4) → ¬ (q = 0 ∧ k = 13) → F.1 q k = E.1 q k := fun q k n1 n2 n3 => by rw [eF, wI_o (by omega), wI_o (by omega), wI_o (by omega), wI_o (by omega)]
  have pF : F.2 = C.2 := by rw [eF]; exact pE
  have o55 : ∀ q k, 55 ≤ q → F.1 q k = c.1 q k := fun q k z => by rw [oF _ _ (by omega) (by omega) (by omega), oE _ _ (by omega), oC _ _ (by omega)]
  have z0 : newS D 0 0 = D 0 0 := nS_0 (by omega)
  have z1 : newS D 0 1 = D 0 1 := nS_0 (by omega)
  have z2 : newS D 0 2 = D 0 2 := nS_0 (by omega)
  have z3 : newS D 0 3 = D 0 3 := nS_0 (by omega)
  have z7 : newS D 0 7 = D 0 7 := nS_0 (by omega)
  have z9 : newS D 0 9 = 0 := nS_n (by omega) (by omega)
  have z10 : newS D 0 10 = 0 := nS_n (by omega) (by omega)
  have z11 : newS D 0 11 = 0 := nS_n (by omega) (by omega)
  have z12 : newS D 0 12 = 0 := nS_n (by omega) (by omega)
  have z13 : newS D 0 13 = 0 := nS_n (by omega) (by omega)
  have z14 : newS D 0 14 = 0 := nS_n (by omega) (by omega)
  have z15 : newS D 0 15 = 0 := nS_n (by omega) (by omega)
  obtain ⟨⟨d1, d2, d3, d4, d5, d6, d7, d8, d9⟩, db, dg, dl⟩ := d
  refine ⟨F, ?_, ⟨?_, ⟨?_, hu, ?_, ?_, ?_, ?_, ?_, fun i hi => ?_, fun g hg => ?_⟩, ?_, ⟨?_, ?_, fun i hi => ?_⟩, ⟨?_, fun i hi => ?_⟩, ⟨?_, fun z => ?_⟩, ⟨?_, fun i hi => ?_⟩, ⟨?_, ?_⟩⟩, ?_, ?_, ?_⟩
  · have v3 : (wI c 1 1 0).1 3 3 = 0 := (wI_o (by omega)).trans f0.1
    have v1 : (wI c 1 1 0).2.2 0 11 = some t := r1
    have v2 : (wI c 1 1 0).2.2 0 12 = some u := r2
    have eC' : wR (wR (wI c 1 1 0) 0 11 (some u)) 0 12 (some t) = C := eC.symm
    have eF' : wI (wI (wI (wI E 39 5 0) 39 6 (-1)) 34 4 0) 0 13 0 = F := eF.symm
    have v4 : F.2.2 0 11 = some u := by rw [pF]; exact rC1
    have v5 : F.1 u 11 = nI j := (o55 _ _ (by omega)).trans h11
    simp only [lt, v3, if_true, v1, v2, Option.bind_some, gd, hku, hkt, eC', rC1, eE, f3_clear, f1_clear, eF', v4, v5]
  · exact nE.cg (fun _ _ => rfl) (fun _ _ _ _ => rfl) (by rw [z0]; exact hn) (fun q k z => oF q k (by omega) (by omega) (by omega))
  · rw [pF]; exact rC1
  · rw [z0, o55 _ _ (by omega)]; exact d1
  · rw [z1, o55 _ _ (by omega)]; exact d4
  · rw [z2, o55 _ _ (by omega)]; exact d3
  · rw [z3, o55 _ _ (by omega)]; exact d9
  · rw [z7, o55 _ _ (by omega)]; exact d5
  · rw [z0] at hi
    rw [nS_o (by omega) (by omega), o55 _ _ (by omega)]; exact (db i hi).1
  · rw [z1] at hg
    rw [nS_o (by omega) (by omega), nS_o (by omega) (by omega), nS_o (by omega) (by omega), o55 _ _ (by omega), o55 _ _ (by omega), o55 _ _ (by omega)]
    exact dg g hg
  · obtain ⟨h1, h2, h3⟩ := dl.cg (D' := newS D) z3 (fun a b h1 h2 => nS_o (by omega) (by omega))
    exact ⟨h1, fun i hi => ⟨(o55 _ _ (by omega)).trans (h2 i hi).1, (o55 _ _ (by omega)).trans (h2 i hi).2⟩, fun l hl => ⟨(o55 _ _ (by omega)).trans (h3 l hl).1, (o55 _ _ (by omega)).trans (h3 l hl).2⟩⟩
  · rw [z14, eF, wI_o (by omega), wI_o (by omega), wI_o (by omega), wI_s]; rfl
  · rw [z15, eF, wI_o (by omega), wI_o (by omega), wI_s]; rfl
  · rw [z14] at hi; exact absurd hi (Nat.not_lt_zero i)
  · rw [z12, eF, wI_o (by omega), wI_s]; rfl
  · rw [z12] at hi; exact absurd hi (Nat.not_lt_zero i)
  · rw [z13, eF, wI_s]; rfl
  · rw [z13] at z; exact absurd z (by decide)
  · rw [z9, oF _ _ (by omega) (by omega) (by omega), oE _ _ (by omega), eC]; exact (wI_s (h := c) (p := 1) (k := 1) (v := 0))
  · rw [z9] at hi; exact absurd hi (Nat.not_lt_zero i)
  · rw [z10, oF _ _ (by omega) (by omega) (by omega), oE _ _ (by omega), oC _ _ (by omega)]; exact f0.1
  · rw [z11, oF _ _ (by omega) (by omega) (by omega), oE _ _ (by omega), oC _ _ (by omega)]; exact f0.2
  · rcases hu with rfl | rfl
    · exact zu.mv (by omega) o55
    · subst ht; exact zt.mv (by omega) o55
  · rcases hu with rfl | rfl
    · subst ht; exact zt.mv (by omega) o55
    · exact zu.mv (by omega) o55
  · rw [pF, ← ht]; exact rC2
end TX
