/-! Reading a text: the knots of a law, one put behind another. -/
def addK (D : Sp) (k v a b : Nat) : Sp := fun i j => if i = 0 ∧ j = 3 then D 0 3 + 1 else if i = 40 ∧ j = D 0 3 then k else if i = 41 ∧ j = D 0 3 then v else if i = 44 ∧ j = D 0 3 then a else if i = 45 ∧ j = D 0 3 then b else D i j
theorem addK_o {D : Sp} {k v a b i j : Nat} (h : ¬ (i = 0 ∧ j = 3)) (h2 : ¬ ((i = 40 ∨ i = 41 ∨ i = 44 ∨ i = 45) ∧ j = D 0 3)) : addK D k v a b i j = D i j := by
  unfold addK
  rw [if_neg h, if_neg (by omega), if_neg (by omega), if_neg (by omega), if_neg (by omega)]
theorem addK_n {D : Sp} {k v a b : Nat} : addK D k v a b 0 3 = D 0 3 + 1 ∧ addK D k v a b 40 (D 0 3) = k ∧ addK D k v a b 41 (D 0 3) = v ∧ addK D k v a b 44 (D 0 3) = a ∧ addK D k v a b 45 (D 0 3) = b := by
  unfold addK
  refine ⟨if_pos (by omega), ?_, ?_, ?_, ?_⟩
  · rw [if_neg (by omega), if_pos (by omega)]
  · rw [if_neg (by omega), if_neg (by omega), if_pos (by omega)]
  · rw [if_neg (by omega), if_neg (by omega), if_neg (by omega), if_pos (by omega)]
  · rw [if_neg (by omega), if_neg (by omega), if_neg (by omega), if_neg (by omega), if_pos (by omega)]
theorem pst_c {K K' : Nat → Nat} {f : Nat} : ∀ d, (∀ i, i < f + d → K' i = K i) → pst K' f d = pst K f d
  | 0, _ => rfl
  | d + 1, h => by
    show push1 K' (pst K' f d) (f + d) = push1 K (pst K f d) (f + d)
    rw [pst_c d (fun i hi => h i (by omega))]
    unfold push1
    rw [h (f + d) (by omega)]
theorem lawStep.cg {D D' : Sp} {st : List Nat} {i : Nat} (h : lawStep D st i) (e : ∀ a, 40 ≤ a → a ≤ 45 → D' a i = D a i) : lawStep D' st i := by
  unfold lawStep at *
  rw [e 40 (by omega) (by omega), e 41 (by omega) (by omega), e 44 (by omega) (by omega), e 45 (by omega) (by omega)]
  exact h
theorem wfLaws.addK {D D' : Sp} (h : wfLaws D) (e3 : D' 0 3 = D 0 3 + 1) (h3 : D 0 3 < 64) (e : ∀ a b, 40 ≤ a → a ≤ 45 → b < D 0 3 ∨ a = 42 ∨ a = 43 → D' a b = D a b) : wfLaws D' := by
  refine ⟨by omega, fun l hl => ?_⟩
  obtain ⟨h1, h2, h4, h5⟩ := h.2 l hl
  rw [e 42 l (by omega) (by omega) (by omega), e 43 l (by omega) (by omega) (by omega)]
  have ep : ∀ d, d ≤ D 43 l - D 42 l → pst (D' 40) (D 42 l) d = pst (D 40) (D 42 l) d := fun d hd => pst_c d (fun i hi => e 40 i (by omega) (by omega) (by omega))
  refine ⟨h1, by omega, fun d hd => ?_, fun z => ?_⟩
  · rw [ep d (by omega)]
    exact (h4 d hd).cg (fun a h1 h2 => e a _ h1 h2 (by omega))
  · rw [ep _ (Nat.le_refl _)]; exact h5 z
def fx (D : Sp) (l : Nat) (m : Hp) : Hp := wI (wI m 0 43 (nI (D 0 3))) 14 (3 + l) 0
theorem fx_o {D : Sp} {l q k : Nat} {m : Hp} (h : ¬ (q = 0 ∧ k = 43)) (h2 : ¬ (q = 14 ∧ k = 3 + l)) : (fx D l m).1 q k = m.1 q k := by
  unfold fx
  rw [wI_o h2, wI_o h]
theorem fx_1 {D : Sp} {l : Nat} {m : Hp} : (fx D l m).1 0 43 = nI (D 0 3) ∧ (fx D l m).1 14 (3 + l) = 0 := by
  unfold fx
  exact ⟨(wI_o (by omega)).trans wI_s, wI_s⟩
section LAWS1
variable {T : Nat → Nat} {E t : Nat} {c0 m0 : Hp} {D D2 : Sp} {p s x a l : Nat} {c m : Hp}
/-- memories that differ where no text is kept -/
theorem RB.same {c' m' : Hp} (h : RB T E t c0 m0 D D p s x a c (fx D l m)) (fc : ∀ q k, ¬ q = 4 → ¬ q = 5 → c'.1 q k = c.1 q k) (fr : ∀ q k, ¬ (q = 4 ∧ k = 2) → c'.2.2 q k = c.2.2 q k) (fm : ∀ q k, ¬ (q = 0 ∧ 40 ≤ k ∧ k ≤ 45) → ¬ q = 20 → ¬ q = 21 → m'.1 q k = m.1 q k) (f2 : m'.2 = m.2) : RB T E t c0 m0 D D p s x a c' (fx D l m') := by
  have fm' : ∀ q k, ¬ (q = 0 ∧ (40 ≤ k ∧ k ≤ 42 ∨ 44 ≤ k ∧ k ≤ 45)) → ¬ q = 20 → ¬ q = 21 → (fx D l m').1 q k = (fx D l m).1 q k := fun q k n1 n2 n3 => by
    by_cases z1 : q = 0 ∧ k = 43
    · rw [z1.1, z1.2, fx_1.1, fx_1.1]
    · by_cases z2 : q = 14 ∧ k = 3 + l
      · rw [z2.1, z2.2, fx_1.2, fx_1.2]
      · rw [fx_o z1 z2, fx_o z1 z2, fm q k (by omega) n2 n3]
  obtain ⟨h1, ⟨f1, f2', f3, f4⟩, ⟨r1, r2⟩, d1, d2, w, z, g1, g2⟩ := h
  refine ⟨h1.mv (fun _ => fc _ _ (by omega) (by omega)) (fun _ => fc _ _ (by omega) (by omega)) (fun k _ _ => fm' _ _ (by omega) (by omega) (by omega)) (fun _ => fm' _ _ (by omega) (by omega) (by omega)) (fun _ => fm' _ _ (by omega) (by omega) (by omega)), ⟨(fc _ _ (by omega) (by omega)).trans f1, (fc _ _ (by omega) (by omega)).trans f2', (fm' _ _ (by omega) (by omega) (by omega)).trans f3, (fm' _ _ (by omega) (by omega) (by omega)).trans f4⟩, ⟨(fr _ _ (by omega)).trans r1, r2⟩, d1.fr (fun q k n => fc _ _ (by omega) (by omega)), d2.fr (fun q k n => fm' _ _ (by omega) (by omega) (by omega)), w, z.fr (fun q k _ _ _ => fc _ _ (by omega) (by omega)), ?_, ?_⟩
  · exact g1.tr ⟨fun q k n1 n2 n3 n4 n5 => fc _ _ n3 n4, fun q k n => fr q k n⟩
  · refine g2.tr ⟨fun q k n => fm' _ _ (fun e => n (by unfold rdM; omega)) (fun e => n (by unfold rdM; omega)) (fun e => n (by unfold rdM; omega)), ?_⟩
    show m'.2 = m.2
    exact f2
def cP (t K : Nat) (k v : Int32) (c : Hp) : Hp := wI (wI (wI c (t + 14 + 1) K k) (t + 14 + 2) K v) (t + 14) 5 (nI (K + 1))
def mP (K hl : Nat) (k a b : Int32) (m : Hp) : Hp := wI (wI (wI (wI (wI (wI m 17 (64 + K) k) 18 (64 + K) a) 19 (64 + K) b) 21 hl (nI K)) 0 41 (nI (hl + 1))) 0 20 (nI (K + 1))
theorem cP_o {K q j : Nat} {k v : Int32} (h : ¬ ((q = t + 15 ∨ q = t + 16) ∧ j = K)) (h2 : ¬ (q = t + 14 ∧ j = 5)) : (cP t K k v c).1 q j = c.1 q j := by
  unfold cP
  rw [wI_o h2, wI_o (by omega), wI_o (by omega)]
theorem mP_o {K hl q j : Nat} {k a b : Int32} (h : ¬ ((q = 17 ∨ q = 18 ∨ q = 19) ∧ j = 64 + K)) (h2 : ¬ (q = 21 ∧ j = hl)) (h3 : ¬ (q = 0 ∧ (j = 41 ∨ j = 20))) : (mP K hl k a b m).1 q j = m.1 q j := by
  unfold mP
  rw [wI_o (by omega), wI_o (by omega), wI_o (by omega), wI_o (by omega), wI_o (by omega), wI_o (by omega)]
theorem RB.grow {k v u w hl : Nat} {vb : Int32} (h : RB T E t c0 m0 D D p s x a c (fx D l m)) (h3 : D 0 3 < 64) (hl3 : l < 3) (hb : bin k → vb = nI w) : RB T E t c0 m0 (addK D k v u w) (addK D k v u w) p s x a (cP t (D 0 3) (nI k) (nI v) c) (fx (addK D k v u w) l (mP (D 0 3) hl (nI (mk k)) (nI u) vb m)) := by
  obtain ⟨e3, e40, e41, e44, e45⟩ := addK_n (D := D) (k := k) (v := v) (a := u) (b := w)
  have eo : ∀ i j, ¬ (i = 0 ∧ j = 3) → ¬ ((i = 40 ∨ i = 41 ∨ i = 44 ∨ i = 45) ∧ j = D 0 3) → addK D k v u w i j = D i j := fun i j h1 h2 => addK_o h1 h2
  generalize addK D k v u w = D' at e3 e40 e41 e44 e45 eo
  have oC : ∀ q j, ¬ ((q = t + 15 ∨ q = t + 16) ∧ j = D 0 3) → ¬ (q = t + 14 ∧ j = 5) → (cP t (D 0 3) (nI k) (nI v) c).1 q j = c.1 q j := fun q j h1 h2 => cP_o h1 h2
  have oM : ∀ q j, ¬ ((q = 17 ∨ q = 18 ∨ q = 19) ∧ j = 64 + D 0 3) → ¬ (q = 21 ∧ j = hl) → ¬ (q = 0 ∧ (j = 41 ∨ j = 20 ∨ j = 43)) → (fx D' l (mP (D 0 3) hl (nI (mk k)) (nI u) vb m)).1 q j = (fx D l m).1 q j := fun q j h1 h2 h3 => by
    by_cases z2 : q = 14 ∧ j = 3 + l
    · rw [z2.1, z2.2, fx_1.2, fx_1.2]
    · rw [fx_o (by omega) z2, fx_o (by omega) z2, mP_o h1 h2 (by omega)]
  obtain ⟨h1, ⟨f1, f2', f3, f4⟩, ⟨r1, r2⟩, dC, dM, wf, z, g1, g2⟩ := h
  have hn6 := wf.1
  refine ⟨h1.mv (fun _ => oC _ _ (by omega) (by omega)) (fun _ => oC _ _ (by omega) (by omega)) (fun k _ _ => oM _ _ (by omega) (by omega) (by omega)) (fun _ => oM _ _ (by omega) (by omega) (by omega)) (fun _ => oM _ _ (by omega) (by omega) (by omega)), ⟨(oC _ _ (by omega) (by omega)).trans f1, (oC _ _ (by omega) (by omega)).trans f2', (oM _ _ (by omega) (by omega) (by omega)).trans f3, (oM _ _ (by omega) (by omega) (by omega)).trans f4⟩, ⟨r1, r2⟩, ?_, ?_, ?_, ?_, ?_, ?_⟩
  · obtain ⟨⟨a1', a2', a3', a4', a5', a6', a7', a8', a9'⟩, b, g, l1, l2, l3⟩ := dC
    refine ⟨⟨?_, ?_, ?_, ?_, ?_, ?_, ?_, ?_, ?_⟩, fun i hi => ?_, fun g' hg => ?_, l1, fun i hi => ?_, fun l hl => ?_⟩
    · rw [eo _ _ (by omega) (by omega), oC _ _ (by omega) (by omega)]; exact a1'
    · rw [eo _ _ (by omega) (by omega), oC _ _ (by omega) (by omega)]; exact a2'
    · rw [eo _ _ (by omega) (by omega), oC _ _ (by omega) (by omega)]; exact a3'
    · rw [eo _ _ (by omega) (by omega), oC _ _ (by omega) (by omega)]; exact a4'
    · rw [eo _ _ (by omega) (by omega), oC _ _ (by omega) (by omega)]; exact a5'
    · rw [eo _ _ (by omega) (by omega), oC _ _ (by omega) (by omega)]; exact a6'
    · rw [eo _ _ (by omega) (by omega), oC _ _ (by omega) (by omega)]; exact a7'
    · rw [eo _ _ (by omega) (by omega), oC _ _ (by omega) (by omega)]; exact a8'
    · rw [e3]; unfold cP; rw [wI_s]
    · rw [eo _ _ (by omega) (by omega)] at hi
      exact ((b i hi).fr (fun k => oC _ _ (by omega) (by omega)) (fun k => oC _ _ (by omega) (by omega))).cg (fun a b h1 h2 => eo _ _ (by omega) (by omega))
    · rw [eo _ _ (by omega) (by omega)] at hg
      rw [eo _ _ (by omega) (by omega), eo _ _ (by omega) (by omega), eo _ _ (by omega) (by omega), oC _ _ (by omega) (by omega), oC _ _ (by omega) (by omega), oC _ _ (by omega) (by omega)]; exact g g' hg
    · rw [e3] at hi
      by_cases zz : i = D 0 3
      · rw [zz, e40, e41]
        unfold cP
        exact ⟨by rw [wI_o (by omega), wI_o (by omega), wI_s], by rw [wI_o (by omega), wI_s]⟩
      · rw [eo _ _ (by omega) (by omega), eo _ _ (by omega) (by omega), oC _ _ (by omega) (by omega), oC _ _ (by omega) (by omega)]; exact l2 i (by omega)
    · rw [eo _ _ (by omega) (by omega), eo _ _ (by omega) (by omega), oC _ _ (by omega) (by omega), oC _ _ (by omega) (by omega)]; exact l3 l hl
  · obtain ⟨⟨a1', a2', a3', a4', a5', a6', a7', a8', a9', a10'⟩, b, z, g, l2, l3⟩ := dM
    refine ⟨⟨?_, ?_, ?_, ?_, ?_, ?_, ?_, ?_, ?_, ?_⟩, fun i hi => ?_, fun i h1 h2 => ?_, fun g' hg => ?_, fun i hi => ?_, fun l hl => ?_⟩
    · rw [eo _ _ (by omega) (by omega), oM _ _ (by omega) (by omega) (by omega)]; exact a1'
    · rw [eo _ _ (by omega) (by omega), oM _ _ (by omega) (by omega) (by omega)]; exact a2'
    · rw [eo _ _ (by omega) (by omega), oM _ _ (by omega) (by omega) (by omega)]; exact a3'
    · rw [eo _ _ (by omega) (by omega), oM _ _ (by omega) (by omega) (by omega)]; exact a4'
    · rw [e3, fx_o (by omega) (by omega)]; unfold mP; rw [wI_s]
    · exact fx_1.1
    · rw [eo _ _ (by omega) (by omega), oM _ _ (by omega) (by omega) (by omega)]; exact a7'
    · rw [eo _ _ (by omega) (by omega), oM _ _ (by omega) (by omega) (by omega)]; exact a8'
    · rw [eo _ _ (by omega) (by omega), oM _ _ (by omega) (by omega) (by omega)]; exact a9'
    · rw [eo _ _ (by omega) (by omega), oM _ _ (by omega) (by omega) (by omega)]; exact a10'
    · rw [eo _ _ (by omega) (by omega)] at hi
      rw [eo 10 _ (by omega) (by omega), eo 2 _ (by omega) (by omega), eo 1 _ (by omega) (by omega), eo 4 _ (by omega) (by omega), eo 5 _ (by omega) (by omega), oM 5 _ (by omega) (by omega) (by omega), oM 6 _ (by omega) (by omega) (by omega), oM 7 _ (by omega) (by omega) (by omega), oM 9 _ (by omega) (by omega) (by omega), oM 10 _ (by omega) (by omega) (by omega)]
      obtain ⟨b1, b2, b3, b4, b5, b6⟩ := b i hi
      exact ⟨b1, b2, b3, b4, b5, fun k hk => by rw [eo _ _ (by omega) (by omega), oM _ _ (by omega) (by omega) (by omega)]; exact b6 k hk⟩
    · rw [eo _ _ (by omega) (by omega)] at h1
      rw [oM _ _ (by omega) (by omega) (by omega), oM _ _ (by omega) (by omega) (by omega)]; exact z i h1 h2
    · rw [eo _ _ (by omega) (by omega)] at hg
      rw [eo _ _ (by omega) (by omega), eo _ _ (by omega) (by omega), eo _ _ (by omega) (by omega), oM _ _ (by omega) (by omega) (by omega), oM _ _ (by omega) (by omega) (by omega), oM _ _ (by omega) (by omega) (by omega)]; exact g g' hg
    · rw [e3] at hi
      by_cases zz : i = D 0 3
      · rw [zz, e40, e44, e45, fx_o (by omega) (by omega), fx_o (by omega) (by omega), fx_o (by omega) (by omega)]
        unfold mP
        refine ⟨?_, ?_, fun hk => ?_⟩
        · rw [wI_o (by omega), wI_o (by omega), wI_o (by omega), wI_o (by omega), wI_o (by omega), wI_s]
        · rw [wI_o (by omega), wI_o (by omega), wI_o (by omega), wI_o (by omega), wI_s]
        · rw [wI_o (by omega), wI_o (by omega), wI_o (by omega), wI_s]; exact hb hk
      · rw [eo 40 _ (by omega) (by omega), eo 44 _ (by omega) (by omega), eo 45 _ (by omega) (by omega), oM 17 _ (by omega) (by omega) (by omega), oM 18 _ (by omega) (by omega) (by omega), oM 19 _ (by omega) (by omega) (by omega)]; exact l2 i (by omega)
    · rw [eo 42 _ (by omega) (by omega), eo 43 _ (by omega) (by omega), oM 14 _ (by omega) (by omega) (by omega), oM 15 _ (by omega) (by omega) (by omega), oM 16 _ (by omega) (by omega) (by omega)]; exact l3 l hl
  · obtain ⟨h1, h2, h3', h4, h5, h6, h7, h8, h9, h10, h11⟩ := wf
    refine ⟨by rw [eo _ _ (by omega) (by omega)]; exact h1, by rw [eo _ _ (by omega) (by omega)]; exact h2, by rw [eo _ _ (by omega) (by omega)]; exact h3', by rw [eo _ _ (by omega) (by omega)]; exact h4, by rw [eo _ _ (by omega) (by omega)]; exact h5, by rw [eo _ _ (by omega) (by omega)]; exact h6, by rw [eo _ _ (by omega) (by omega)]; exact h7, by rw [eo _ _ (by omega) (by omega)]; exact h8, fun i hi => ?_, fun g hg => ?_, h11.addK e3 h3 (fun a b _ _ n => eo _ _ (by omega) (by omega))⟩
    · rw [eo _ _ (by omega) (by omega)] at hi
      rw [eo 1 _ (by omega) (by omega), eo 2 _ (by omega) (by omega), eo 4 _ (by omega) (by omega), eo 5 _ (by omega) (by omega)]
      obtain ⟨b1, b2, b3, b4, b5, b6⟩ := h9 i hi
      exact ⟨b1, b2, b3, b4, b5, fun k hk => by rw [eo _ _ (by omega) (by omega)]; exact b6 k hk⟩
    · rw [eo _ _ (by omega) (by omega)] at hg
      rw [eo _ _ (by omega) (by omega), eo _ _ (by omega) (by omega)]; exact h10 g hg
  · unfold cP
    exact ((z.w (fun i _ e => by omega)).w (fun i _ e => by omega)).w (fun i _ e => by omega)
  · unfold cP
    exact ((g1.w (by omega)).w (by omega)).w (by omega)
  · refine g2.tr ⟨fun q j n => oM q j (fun e => n (by unfold rdM; omega)) (fun e => n (by unfold rdM; omega)) (fun e => n (by unfold rdM; omega)), rfl⟩
end LAWS1
