/-! Reading a text: a law's line. -/
noncomputable def lwR (h : Hp) : Option (Int32 × Hp) := (f12_token h).bind fun h32 => if h32.1 0 8 = 1 then (if h32.1 0 9 < 7 then (f12_lineRead_148 h32) else (if h32.1 0 9 ≤ 9 then (lt ((3 + (h32.1 0 9)) - 7) fun v39 => gd (inb v39 6) <| if h32.1 14 (ix v39) = 0 then (gd (inb v39 6) <| lt (wI h32 14 (ix v39) 1) fun h43 => (f12_token h43).bind fun h44 => gd (inb v39 6) <| lt (wI h44 15 (ix v39) (h44.1 0 20)) fun h46 => (f12_sumRead h46).bind fun (r47, h48) => gd (inb v39 6) <| lt (wI h48 16 (ix v39) (h48.1 0 20)) fun h50 => some (r47, h50)) else ((f12_wrong 3 h32).bind fun (r51, h52) => gd (bz r51) <| some (r51, h52))) else (f12_lineRead_148 h32))) else (f12_lineRead_148 h32)
section LAWSA
variable {T : Nat → Nat} {E t : Nat} {c0 m0 : Hp} {D D2 : Sp} {p s x a l f : Nat} {c m : Hp} {st H : List Nat} {wn may : Nat}
theorem drM.w15 {v : Int32} (h : drM D m) (hl : ¬ D 42 l < D 43 l) : drM D (wI m 15 (3 + l) v) := by
  obtain ⟨⟨a1, a2, a3, a4, a5, a6, a7, a8, a9, a10⟩, b, z, g, l2, l3⟩ := h
  refine ⟨⟨(wI_o (by omega)).trans a1, (wI_o (by omega)).trans a2, (wI_o (by omega)).trans a3, (wI_o (by omega)).trans a4, (wI_o (by omega)).trans a5, (wI_o (by omega)).trans a6, (wI_o (by omega)).trans a7, (wI_o (by omega)).trans a8, (wI_o (by omega)).trans a9, (wI_o (by omega)).trans a10⟩, fun i hi => ?_, fun i h1 h2 => ?_, fun x hx => ?_, fun i hi => ?_, fun l' hl' => ?_⟩
  · obtain ⟨b1, b2, b3, b4, b5, b6⟩ := b i hi
    exact ⟨(wI_o (by omega)).trans b1, (wI_o (by omega)).trans b2, (wI_o (by omega)).trans b3, (wI_o (by omega)).trans b4, (wI_o (by omega)).trans b5, fun k hk => (wI_o (by omega)).trans (b6 k hk)⟩
  · exact ⟨(wI_o (by omega)).trans (z i h1 h2).1, (wI_o (by omega)).trans (z i h1 h2).2⟩
  · exact ⟨(wI_o (by omega)).trans (g x hx).1, (wI_o (by omega)).trans (g x hx).2.1, (wI_o (by omega)).trans (g x hx).2.2⟩
  · exact ⟨(wI_o (by omega)).trans (l2 i hi).1, (wI_o (by omega)).trans (l2 i hi).2.1, fun hb => (wI_o (by omega)).trans ((l2 i hi).2.2 hb)⟩
  · refine ⟨(wI_o (by omega)).trans (l3 l' hl').1, fun ht => ?_⟩
    have : ¬ l' = l := fun e => hl (by rw [← e]; exact ht)
    exact ⟨(wI_o (by omega)).trans ((l3 l' hl').2 ht).1, (wI_o (by omega)).trans ((l3 l' hl').2 ht).2⟩
theorem RB.nextF (h0 : RB T E t c0 m0 D D p s x a c (fx D l m)) : ∃ c' m' p' s' x' a', f8_next c = some c' ∧ f12_token m = some m' ∧ RB T E t c0 m0 D D p' s' x' a' c' (fx D l m') ∧ p ≤ s' ∧ frT c c' ∧ frU m m' := by
  obtain ⟨h1, ⟨f1, f2, f3, f4⟩, ⟨r1, r2⟩, d1, d2, w, z, g1, g2⟩ := h0
  have h1 : tks T E p s x a c m := h1.mv (fun _ => rfl) (fun _ => rfl) (fun k _ _ => (fx_o (by omega) (by omega)).symm) (fun k => (fx_o (by omega) (by omega)).symm) (fun k => (fx_o (by omega) (by omega)).symm)
  obtain ⟨c', m', p', s', x', a', e1, e2, k, hp, fc, fm⟩ := next_both h1.1 h1.2.1 h1.2.2.1 h1.2.2.2.2.2.2.1
  have fm' : ∀ q k, ¬ (q = 0 ∧ 7 ≤ k ∧ k ≤ 10) → (fx D l m').1 q k = (fx D l m).1 q k := fun q k n => by
    by_cases z1 : q = 0 ∧ k = 43
    · rw [z1.1, z1.2, fx_1.1, fx_1.1]
    · by_cases z2 : q = 14 ∧ k = 3 + l
      · rw [z2.1, z2.2, fx_1.2, fx_1.2]
      · rw [fx_o z1 z2, fx_o z1 z2, fm.1 q k (by omega)]
  refine ⟨c', m', p', s', x', a', e1, e2, ⟨?_, ⟨(fc.1 _ _ (by omega)).trans f1, (fc.1 _ _ (by omega)).trans f2, (fm' _ _ (by omega)).trans f3, (fm' _ _ (by omega)).trans f4⟩, ⟨by rw [fc.2]; exact r1, r2⟩, d1.fr (fun q k n => fc.1 _ _ (by omega)), d2.fr (fun q k n => fm' _ _ (by omega)), w, z.fr (fun q k a b _ => fc.1 _ _ (by omega)), g1.tr fc.r, ?_⟩, hp, fc, fm⟩
  · exact k.mv (fun _ => rfl) (fun _ => rfl) (fun k _ _ => fx_o (by omega) (by omega)) (fun k => fx_o (by omega) (by omega)) (fun k => fx_o (by omega) (by omega))
  · refine g2.tr ⟨fun q k n => fm' q k (fun e => n (by unfold rdM; omega)), ?_⟩
    show m'.2 = m.2
    exact fm.2
/-- the sum of a law that isn't told, from behind its name -/
theorem law_sum {s0 : Nat} (h : RB T E t c0 m0 D D p s x a c (fx D l m)) (hl : l < 3) (nt : ¬ D 42 l < D 43 l) (m43 : m.1 0 43 = nI (D 0 3)) (m14 : m.1 14 (3 + l) = 1) (hs0 : s0 < s) : LO T E t c0 m0 s0 (f7_readLaw_102 (nI l) c) ((f12_sumRead (wI m 15 (3 + l) (m.1 0 20))).bind fun (r47, h48) => some (r47, wI h48 16 (3 + l) (h48.1 0 20))) := by
  have ht := h.2.2.1.2
  have hr := h.2.2.1.1
  have hkd := kd5 ht
  have hkd10 := kd10 ht
  have v5 : c.1 (t + 14) 5 = nI (D 0 3) := h.2.2.2.1.1.2.2.2.2.2.2.2.2
  have v20 : m.1 0 20 = nI (D 0 3) := by rw [← fx_o (D := D) (l := l) (m := m) (q := 0) (k := 20) (by omega) (by omega)]; exact h.2.2.2.2.1.1.2.2.2.2.1
  have hK : D 0 3 ≤ 64 := h.2.2.2.2.2.1.2.2.2.2.2.2.2.2.2.2.1
  have f3 := h.2.1.1
  -- the memories at the loop's start
  obtain ⟨C, eC⟩ : ∃ C, C = wI (wI (wI (wI (wI (wI (wR c 4 2 (some (t + 14))) 4 3 0) 4 4 (nI (D 0 3))) 4 5 0) 4 6 0) 4 7 1) 4 8 1 := ⟨_, rfl⟩
  obtain ⟨M, eM⟩ : ∃ M, M = wI (wI (wI (wI (wI (wI m 15 (3 + l) (nI (D 0 3))) 0 40 0) 0 41 0) 0 42 0) 0 44 1) 0 45 1 := ⟨_, rfl⟩
  have h15 : RB T E t c0 m0 D D p s x a c (fx D l (wI m 15 (3 + l) (nI (D 0 3)))) := by
    have k : RB T E t c0 m0 D D p s x a c (wI (fx D l m) 15 (3 + l) (nI (D 0 3))) := h.wM (by unfold rdM; omega) (by omega) (h.2.2.2.2.1.w15 nt)
    refine k.mcg (fun q j => ?_) rfl
    by_cases z : q = 15 ∧ j = 3 + l
    · rw [z.1, z.2, fx_o (by omega) (by omega), wI_s, wI_s]
    · rw [wI_o z]
      by_cases z1 : q = 0 ∧ j = 43
      · rw [z1.1, z1.2, fx_1.1, fx_1.1]
      · by_cases z2 : q = 14 ∧ j = 3 + l
        · rw [z2.1, z2.2, fx_1.2, fx_1.2]
        · rw [fx_o z1 z2, fx_o z1 z2, wI_o z]
  have hst : LW T E t c0 m0 l (D 0 3) D [] [] 1 1 p s x a C M := by
    have k : RB T E t c0 m0 D D p s x a C (fx D l M) := h15.same (fun q k n _ => by rw [eC, wI_o (by omega), wI_o (by omega), wI_o (by omega), wI_o (by omega), wI_o (by omega), wI_o (by omega)]; rfl) (fun q k n => by rw [eC]; exact up2_of n) (fun q k n _ _ => by rw [eM, wI_o (by omega), wI_o (by omega), wI_o (by omega), wI_o (by omega), wI_o (by omega)]) (by rw [eM]; rfl)
    refine ⟨⟨k, by rw [eC]; show up2 c.2.2 4 2 (some (t + 14)) 4 2 = some (t + 14); exact up2_s, ⟨Nat.le_refl _, hl, by rw [Nat.sub_self]; rfl, fun d hd => by omega⟩, ⟨?_, ?_, ?_, ?_⟩, ⟨?_, ?_, ?_, ?_, ?_⟩, ⟨trivial, trivial, trivial⟩, ⟨hK, Nat.zero_le _, by omega, by omega⟩, fun k hk => by cases hk⟩, rfl, ⟨0, by omega, ?_, BT.nil (by decide)⟩, ?_, ?_, fun _ _ => rfl, ?_, ?_⟩
    · rw [eC, wI_o (by omega), wI_o (by omega), wI_o (by omega), wI_o (by omega), wI_o (by omega), wI_s]; rfl
    · rw [eC, wI_o (by omega), wI_o (by omega), wI_o (by omega), wI_s]; rfl
    · rw [eC, wI_o (by omega), wI_s]; rfl
    · rw [eC, wI_s]; rfl
    · rw [eM, wI_o (by omega), wI_o (by omega), wI_o (by omega), wI_o (by omega), wI_s]; rfl
    · rw [eM, wI_o (by omega), wI_o (by omega), wI_o (by omega), wI_s]; rfl
    · rw [eM, wI_o (by omega), wI_o (by omega), wI_s]; rfl
    · rw [eM, wI_o (by omega), wI_s]; rfl
    · rw [eM, wI_s]; rfl
    · rw [eC, wI_o (by omega), wI_o (by omega), wI_s]; rfl
    · rw [eC, wI_o (by omega), wI_o (by omega), wI_o (by omega), wI_o (by omega), wI_s]; rfl
    · rw [eM, wI_o (by omega), wI_o (by omega), wI_o (by omega), wI_o (by omega), wI_o (by omega), wI_o (by omega), m43]; rfl
    · rw [eM, wI_o (by omega), wI_o (by omega), wI_o (by omega), wI_o (by omega), wI_o (by omega), wI_o (by omega)]; exact m14
    · rw [eM, wI_o (by omega), wI_o (by omega), wI_o (by omega), wI_o (by omega), wI_o (by omega), wI_s]
  have eRC : f4_readInto (t + 14) (nI l) c = f4_readInto_52 (nI l) (nI (D 0 3)) 0 C := by
    have r1 : ∀ v, (wI (wR c 4 2 (some (t + 14))) 4 3 v).2.2 4 2 = some (t + 14) := fun v => by show up2 c.2.2 4 2 (some (t + 14)) 4 2 = some (t + 14); exact up2_s
    have r2 : (wI (wR c 4 2 (some (t + 14))) 4 3 0).1 (t + 14) 5 = nI (D 0 3) := (wI_o (by omega)).trans v5
    have r3 : C.2.2 4 2 = some (t + 14) := by rw [eC]; show up2 c.2.2 4 2 (some (t + 14)) 4 2 = some (t + 14); exact up2_s
    have r4 : C.1 (t + 14) 5 = nI (D 0 3) := by rw [eC, wI_o (by omega), wI_o (by omega), wI_o (by omega), wI_o (by omega), wI_o (by omega), wI_o (by omega)]; exact v5
    simp only [f4_readInto, lt, r1, Option.bind_some, gd, hkd, if_true, r2, ← eC, r3, r4]
  have eRM : f12_sumRead (wI m 15 (3 + l) (m.1 0 20)) = f12_sumRead_25 M := by
    rw [v20]
    simp only [f12_sumRead, lt, ← eM]
  have e102 : f7_readLaw_102 (nI l) c = (f4_readInto_52 (nI l) (nI (D 0 3)) 0 C).bind fun (r14, h15) => if r14 = 0 then (f7_readLaw_135 r14 1 h15) else (f7_readLaw_135 r14 0 h15) := by
    simp only [f7_readLaw_102, f3, if_true, hr, Option.bind_some, gd, hkd10, eRC]
  rw [e102, eRM]
  have lq := law_loop (x2 := nI l) (x3 := nI (D 0 3)) (s0 := s) 701 0 D [] [] 1 1 p s x a C M (by omega) (by omega) (Nat.le_refl _) hst
  have lq : LQ T E t c0 m0 l (D 0 3) s (nI l) (nI (D 0 3)) (f4_readInto_52 (nI l) (nI (D 0 3)) 0 C) (f12_sumRead_25 M) := lq
  rcases lq with ⟨D', st', H', may', p', s', x', a', c', m', e1, e2, k', o0, hs⟩ | ⟨fc, s', c', m', D', p', x', a', m2, hf, e1, e2, g2, k'⟩
  · obtain ⟨D2, c2, m2, y1, y2, k2⟩ := law_end k' o0
    refine Or.inl ⟨D2, p', s', x', a', c2, wI m2 16 (3 + l) (m2.1 0 20), ?_, ?_, k2, by omega⟩
    · rw [e1, y1]
      simp only [Option.bind_some, if_true, f7_readLaw_135, f7_check, one_ne, if_false]
    · rw [e2, y2]; rfl
  · obtain ⟨c2, m3, y1, -, g1, -⟩ := k'.fail (f := fc) (by omega)
    have fne : ¬ nI fc = 0 := nI_ne0 (by omega) (by omega)
    refine Or.inr ⟨fc, s', c2, wI m' 16 (3 + l) (m'.1 0 20), ?_, ?_, g1, ?_⟩
    · rw [e1]
      simp only [Option.bind_some, fne, if_false, f7_readLaw_135, f7_check, if_true, y1]
    · rw [e2]; rfl
    · exact ⟨(wI_o (by omega)).trans g2.1, (wI_o (by omega)).trans g2.2.1, g2.2.2.w (by unfold rdM; omega)⟩
end LAWSA
