/-! Reading a text: a law's end. -/
section LAWS9
variable {T : Nat → Nat} {E t : Nat} {c0 m0 : Hp} {D D2 : Sp} {p s x a l f : Nat} {c m : Hp} {st H : List Nat} {wn may : Nat}
theorem o21_0 : ∀ {st : List Nat}, o21 st = 0 → ∀ k, k ∈ st → ¬ k = 21
  | [], _, k, hk => by cases hk
  | a :: r, h, k, hk => by
    have h : (if a = 21 then 1 else 0) + o21 r = 0 := h
    rcases List.mem_cons.mp hk with e | e
    · intro z
      rw [e] at z
      rw [if_pos z] at h
      omega
    · exact o21_0 (by omega) k e
theorem RB.mcg {m' : Hp} (h : RB T E t c0 m0 D D2 p s x a c m) (e : ∀ q k, m'.1 q k = m.1 q k) (e2 : m'.2 = m.2) : RB T E t c0 m0 D D2 p s x a c m' := by
  have : m' = m := Prod.ext (funext fun q => funext fun k => e q k) e2
  rw [this]; exact h
theorem law_end (h : LW T E t c0 m0 l f D st H 0 may p s x a c m) (ho : o21 st = 0) : ∃ D' c' m1, f4_readInto_86 (nI l) (nI f) c = some (0, c') ∧ f12_sumRead_74 m = some (1, m1) ∧ RB T E t c0 m0 D' D' p s x a c' (wI m1 16 (3 + l) (m1.1 0 20)) := by
  obtain ⟨hc, hH, -, h44, h43, -, h14, h15⟩ := h
  have hH : H.length = nbi st + 1 := hH
  have hk := hc.2.2.2.2.2.2.2
  have n21 := o21_0 ho
  obtain ⟨D', H', c1, m1, e1, e2, k', hH', n', y1, y2, y3, y4⟩ := pop_both (R := 0) (R' := 1) (st1 := []) (by omega) (by omega) (fun k r e => by cases e) st D H c m (by rw [List.append_nil]; exact hc) (by rw [List.append_nil]; exact hH) (fun k hk' => ⟨n21 k hk', Nat.zero_le _, (rk_le k (hk k hk').2 (hk k hk').1).2 (n21 k hk')⟩)
  rw [List.append_nil] at n'
  have e1 : f4_putAbove 0 c = some c1 := e1
  have e2 : f12_bind 1 m = some m1 := e2
  have n' : D' 0 3 = D 0 3 + nbk st := n'
  have hH' : H'.length = 1 := hH'
  have y3 : m1.1 0 43 = nI (D' 0 3) := by rw [y3, h43, n']
  have y14 : m1.1 14 (3 + l) = 1 := (y4 _ _ (by omega)).trans h14
  have y15 : m1.1 15 (3 + l) = nI f := (y4 _ _ (by omega)).trans h15
  obtain ⟨hr, hr2, ⟨hf, hl, hP, hs⟩, -, -, -, -, -⟩ := k'
  have fK : f < D' 0 3 := by
    by_cases z : f = D' 0 3
    · rw [← z, Nat.sub_self] at hP
      rw [hP] at hH'
      have hH' : (0 : Nat) = 1 := hH'
      omega
    · omega
  have ht := hr.2.2.1.2
  have hkd := kd5 ht
  have hK64 : D' 0 3 ≤ 64 := hr.2.2.2.2.2.1.2.2.2.2.2.2.2.2.2.2.1
  have v5 : c1.1 (t + 14) 5 = nI (D' 0 3) := hr.2.2.2.1.1.2.2.2.2.2.2.2.2
  have v20 : m1.1 0 20 = nI (D' 0 3) := by rw [← fx_o (D := D') (l := l) (m := m1) (q := 0) (k := 20) (by omega) (by omega)]; exact hr.2.2.2.2.1.1.2.2.2.2.1
  have v5' : (wI c1 (t + 14 + 3) l (nI f)).1 (t + 14) 5 = nI (D' 0 3) := (wI_o (by omega)).trans v5
  obtain ⟨C, eC⟩ : ∃ C, C = wI (wI c1 (t + 14 + 3) l (nI f)) (t + 14 + 4) l (nI (D' 0 3)) := ⟨_, rfl⟩
  have e42 : ∀ i, up2 (up2 D' 42 l f) 43 l (D' 0 3) 42 i = if i = l then f else D' 42 i := fun i => by
    rw [up2_of (by omega)]
    by_cases z : i = l
    · rw [if_pos z, z, up2_s]
    · rw [if_neg z, up2_of (by omega)]
  have e43 : ∀ i, up2 (up2 D' 42 l f) 43 l (D' 0 3) 43 i = if i = l then D' 0 3 else D' 43 i := fun i => by
    by_cases z : i = l
    · rw [if_pos z, z, up2_s]
    · rw [if_neg z, up2_of (by omega), up2_of (by omega)]
  have eo : ∀ i j, ¬ i = 42 → ¬ i = 43 → up2 (up2 D' 42 l f) 43 l (D' 0 3) i j = D' i j := fun i j h1 h2 => by rw [up2_of (by omega), up2_of (by omega)]
  generalize up2 (up2 D' 42 l f) 43 l (D' 0 3) = D'' at e42 e43 eo
  have oC : ∀ q k, ¬ ((q = t + 17 ∨ q = t + 18) ∧ k = l) → C.1 q k = c1.1 q k := fun q k n => by rw [eC, wI_o (by omega), wI_o (by omega)]
  refine ⟨D'', C, m1, ?_, ?_, ?_⟩
  · simp only [f4_readInto_86, e1, Option.bind_some, hr2, gd, hkd, if_true, inb_t hl (by omega), ix_nI (show l < 2 ^ 31 by omega), lt, wI_r, v5', ← eC]
  · simp only [f12_sumRead_74, e2, Option.bind_some]
  · rw [v20]
    have oM : ∀ q k, ¬ (q = 14 ∧ k = 3 + l) → ¬ (q = 16 ∧ k = 3 + l) → (wI m1 16 (3 + l) (nI (D' 0 3))).1 q k = (fx D' l m1).1 q k := fun q k n1 n2 => by
      rw [wI_o n2]
      by_cases z : q = 0 ∧ k = 43
      · rw [z.1, z.2, fx_1.1, y3]
      · rw [fx_o z n1]
    obtain ⟨h1, ⟨f1, f2', f3, f4⟩, ⟨r1, r2⟩, dC, dM, wf, z, g1, g2⟩ := hr
    have hn6 := wf.1
    refine ⟨h1.mv (fun _ => oC _ _ (by omega)) (fun _ => oC _ _ (by omega)) (fun k _ _ => oM _ _ (by omega) (by omega)) (fun _ => oM _ _ (by omega) (by omega)) (fun _ => oM _ _ (by omega) (by omega)), ⟨(oC _ _ (by omega)).trans f1, (oC _ _ (by omega)).trans f2', (oM _ _ (by omega) (by omega)).trans f3, (oM _ _ (by omega) (by omega)).trans f4⟩, ⟨by rw [eC]; exact r1, r2⟩, ?_, ?_, ?_, ?_, ?_, ?_⟩
    · obtain ⟨⟨a1', a2', a3', a4', a5', a6', a7', a8', a9'⟩, b, g, l1, l2, l3⟩ := dC
      refine ⟨⟨?_, ?_, ?_, ?_, ?_, ?_, ?_, ?_, ?_⟩, fun i hi => ?_, fun g' hg => ?_, l1, fun i hi => ?_, fun l' hl' => ?_⟩
      · rw [eo _ _ (by omega) (by omega), oC _ _ (by omega)]; exact a1'
      · rw [eo _ _ (by omega) (by omega), oC _ _ (by omega)]; exact a2'
      · rw [eo _ _ (by omega) (by omega), oC _ _ (by omega)]; exact a3'
      · rw [eo _ _ (by omega) (by omega), oC _ _ (by omega)]; exact a4'
      · rw [eo _ _ (by omega) (by omega), oC _ _ (by omega)]; exact a5'
      · rw [eo _ _ (by omega) (by omega), oC _ _ (by omega)]; exact a6'
      · rw [eo _ _ (by omega) (by omega), oC _ _ (by omega)]; exact a7'
      · rw [eo _ _ (by omega) (by omega), oC _ _ (by omega)]; exact a8'
      · rw [eo _ _ (by omega) (by omega), oC _ _ (by omega)]; exact a9'
      · rw [eo _ _ (by omega) (by omega)] at hi
        exact ((b i hi).fr (fun k => oC _ _ (by omega)) (fun k => oC _ _ (by omega))).cg (fun a b h1 h2 => eo _ _ (by omega) (by omega))
      · rw [eo _ _ (by omega) (by omega)] at hg
        rw [eo _ _ (by omega) (by omega), eo _ _ (by omega) (by omega), eo _ _ (by omega) (by omega), oC _ _ (by omega), oC _ _ (by omega), oC _ _ (by omega)]; exact g g' hg
      · rw [eo _ _ (by omega) (by omega)] at hi
        rw [eo _ _ (by omega) (by omega), eo _ _ (by omega) (by omega), oC _ _ (by omega), oC _ _ (by omega)]; exact l2 i hi
      · rw [e42, e43]
        by_cases zz : l' = l
        · rw [if_pos zz, if_pos zz, zz, eC]
          exact ⟨by rw [wI_o (by omega), wI_s], by rw [wI_s]⟩
        · rw [if_neg zz, if_neg zz, oC _ _ (by omega), oC _ _ (by omega)]; exact l3 l' hl'
    · obtain ⟨⟨a1', a2', a3', a4', a5', a6', a7', a8', a9', a10'⟩, b, z, g, l2, l3⟩ := dM
      refine ⟨⟨?_, ?_, ?_, ?_, ?_, ?_, ?_, ?_, ?_, ?_⟩, fun i hi => ?_, fun i h1 h2 => ?_, fun g' hg => ?_, fun i hi => ?_, fun l' hl' => ?_⟩
      · rw [eo _ _ (by omega) (by omega), oM _ _ (by omega) (by omega)]; exact a1'
      · rw [eo _ _ (by omega) (by omega), oM _ _ (by omega) (by omega)]; exact a2'
      · rw [eo _ _ (by omega) (by omega), oM _ _ (by omega) (by omega)]; exact a3'
      · rw [eo _ _ (by omega) (by omega), oM _ _ (by omega) (by omega)]; exact a4'
      · rw [eo _ _ (by omega) (by omega), oM _ _ (by omega) (by omega)]; exact a5'
      · rw [eo _ _ (by omega) (by omega), oM _ _ (by omega) (by omega)]; exact a6'
      · rw [eo _ _ (by omega) (by omega), oM _ _ (by omega) (by omega)]; exact a7'
      · rw [eo _ _ (by omega) (by omega), oM _ _ (by omega) (by omega)]; exact a8'
      · rw [eo _ _ (by omega) (by omega), oM _ _ (by omega) (by omega)]; exact a9'
      · rw [eo _ _ (by omega) (by omega), oM _ _ (by omega) (by omega)]; exact a10'
      · rw [eo _ _ (by omega) (by omega)] at hi
        rw [eo 10 _ (by omega) (by omega), eo 2 _ (by omega) (by omega), eo 1 _ (by omega) (by omega), eo 4 _ (by omega) (by omega), eo 5 _ (by omega) (by omega), oM 5 _ (by omega) (by omega), oM 6 _ (by omega) (by omega), oM 7 _ (by omega) (by omega), oM 9 _ (by omega) (by omega), oM 10 _ (by omega) (by omega)]
        obtain ⟨b1, b2, b3, b4, b5, b6⟩ := b i hi
        exact ⟨b1, b2, b3, b4, b5, fun k hk => by rw [eo _ _ (by omega) (by omega), oM _ _ (by omega) (by omega)]; exact b6 k hk⟩
      · rw [eo _ _ (by omega) (by omega)] at h1
        rw [oM _ _ (by omega) (by omega), oM _ _ (by omega) (by omega)]; exact z i h1 h2
      · rw [eo _ _ (by omega) (by omega)] at hg
        rw [eo _ _ (by omega) (by omega), eo _ _ (by omega) (by omega), eo _ _ (by omega) (by omega), oM _ _ (by omega) (by omega), oM _ _ (by omega) (by omega), oM _ _ (by omega) (by omega)]; exact g g' hg
      · rw [eo _ _ (by omega) (by omega)] at hi
        rw [eo 40 _ (by omega) (by omega), eo 44 _ (by omega) (by omega), eo 45 _ (by omega) (by omega), oM 17 _ (by omega) (by omega), oM 18 _ (by omega) (by omega), oM 19 _ (by omega) (by omega)]; exact l2 i hi
      · rw [e42, e43]
        by_cases zz : l' = l
        · rw [if_pos zz, if_pos zz, zz, if_pos fK]
          refine ⟨by rw [wI_o (by omega)]; exact y14, fun _ => ⟨by rw [wI_o (by omega)]; exact y15, by rw [wI_s]⟩⟩
        · rw [if_neg zz, if_neg zz, oM 14 _ (by omega) (by omega), oM 15 _ (by omega) (by omega), oM 16 _ (by omega) (by omega)]; exact l3 l' hl'
    · obtain ⟨h1, h2, h3', h4, h5, h6, h7, h8, h9, h10, h11, h12⟩ := wf
      refine ⟨by rw [eo _ _ (by omega) (by omega)]; exact h1, by rw [eo _ _ (by omega) (by omega)]; exact h2, by rw [eo _ _ (by omega) (by omega)]; exact h3', by rw [eo _ _ (by omega) (by omega)]; exact h4, by rw [eo _ _ (by omega) (by omega)]; exact h5, by rw [eo _ _ (by omega) (by omega)]; exact h6, by rw [eo _ _ (by omega) (by omega)]; exact h7, by rw [eo _ _ (by omega) (by omega)]; exact h8, fun i hi => ?_, fun g hg => ?_, by rw [eo _ _ (by omega) (by omega)]; exact h11, fun l' hl' => ?_⟩
      · rw [eo _ _ (by omega) (by omega)] at hi
        rw [eo 1 _ (by omega) (by omega), eo 2 _ (by omega) (by omega), eo 4 _ (by omega) (by omega), eo 5 _ (by omega) (by omega)]
        obtain ⟨b1, b2, b3, b4, b5, b6⟩ := h9 i hi
        exact ⟨b1, b2, b3, b4, b5, fun k hk => by rw [eo _ _ (by omega) (by omega)]; exact b6 k hk⟩
      · rw [eo _ _ (by omega) (by omega)] at hg
        rw [eo _ _ (by omega) (by omega), eo _ _ (by omega) (by omega)]; exact h10 g hg
      · have e40 : D'' 40 = D' 40 := funext (fun j => eo 40 j (by omega) (by omega))
        have ls : ∀ st i, lawStep D' st i → lawStep D'' st i := fun st i h => by
          unfold lawStep at *
          rw [eo 40 _ (by omega) (by omega), eo 41 _ (by omega) (by omega), eo 44 _ (by omega) (by omega), eo 45 _ (by omega) (by omega)]
          exact h
        rw [e42, e43, e40, eo 0 3 (by omega) (by omega)]
        by_cases zz : l' = l
        · rw [if_pos zz, if_pos zz]
          exact ⟨by omega, Nat.le_refl _, fun d hd => ls _ _ (hs d hd), fun _ => by rw [← hP]; exact hH'⟩
        · rw [if_neg zz, if_neg zz]
          obtain ⟨q1, q2, q3, q4⟩ := h12 l' hl'
          exact ⟨q1, q2, fun d hd => ls _ _ (q3 d hd), q4⟩
    · rw [eC]; exact (z.w (fun i _ e => by omega)).w (fun i _ e => by omega)
    · rw [eC]; exact (g1.w (by omega)).w (by omega)
    · refine g2.tr ⟨fun q k n => oM q k (fun e => n (by unfold rdM; omega)) (fun e => n (by unfold rdM; omega)), rfl⟩
end LAWS9
