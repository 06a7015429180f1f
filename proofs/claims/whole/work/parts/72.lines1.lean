/-! Reading a text: damp, seed, guests. -/
theorem wfLaws.cg {D D' : Sp} (h : wfLaws D) (e3 : D' 0 3 = D 0 3) (e : ∀ a b, 40 ≤ a → a ≤ 45 → D' a b = D a b) : wfLaws D' := by
  have h40 : D' 40 = D 40 := funext (fun b => e 40 b (by omega) (by omega))
  have h41 : D' 41 = D 41 := funext (fun b => e 41 b (by omega) (by omega))
  have h42 : D' 42 = D 42 := funext (fun b => e 42 b (by omega) (by omega))
  have h43 : D' 43 = D 43 := funext (fun b => e 43 b (by omega) (by omega))
  have h44 : D' 44 = D 44 := funext (fun b => e 44 b (by omega) (by omega))
  have h45 : D' 45 = D 45 := funext (fun b => e 45 b (by omega) (by omega))
  unfold wfLaws lawStep at *
  rw [h40, h41, h42, h43, h44, h45, e3]
  exact h
def sc0 (a b : Nat) : Prop := a = 0 ∧ (b = 7 ∨ b = 8 ∨ 23 ≤ b ∧ b ≤ 25)
theorem lawC.cg {D D' : Sp} {t : Nat} {c : Hp} (h : lawC D t c) (e3 : D' 0 3 = D 0 3) (e : ∀ a b, 40 ≤ a → a ≤ 45 → D' a b = D a b) : lawC D' t c := by
  obtain ⟨h1, h2, h3⟩ := h
  refine ⟨h1, fun i hi => ?_, fun l hl => ?_⟩
  · rw [e3] at hi
    rw [e 40 i (by omega) (by omega), e 41 i (by omega) (by omega)]; exact h2 i hi
  · rw [e 42 l (by omega) (by omega), e 43 l (by omega) (by omega)]; exact h3 l hl
theorem bxT.cg {D D' : Sp} {i p : Nat} {c : Hp} (h : bxT D i p c) (e : ∀ a b, 1 ≤ a → a ≤ 10 → D' a b = D a b) : bxT D' i p c := by
  obtain ⟨h1, h2, h3, h4, h5, h6, h7⟩ := h
  have ep : pinN D' i = pinN D i := by unfold pinN; exact cnt_congr (fun k _ => by rw [e 7 _ (by omega) (by omega)])
  exact ⟨by rw [e 10 _ (by omega) (by omega)]; exact h1, by rw [e 1 _ (by omega) (by omega)]; exact h2, by rw [ep]; exact h3, by rw [e 5 _ (by omega) (by omega)]; exact h4, by rw [e 2 _ (by omega) (by omega)]; exact h5, by rw [e 4 _ (by omega) (by omega)]; exact h6, fun k hk => by rw [e 7 _ (by omega) (by omega)]; exact h7 k hk⟩
theorem drC.up {D D' : Sp} {t : Nat} {c c' : Hp} (h : drC D t c) (hn : D 0 0 ≤ 6) (e : ∀ a b, ¬ sc0 a b → D' a b = D a b) (o : ∀ q k, t ≤ q → q ≤ t + 22 → ¬ (q = t ∧ (k = 6 ∨ k = 9 ∨ k = 10 ∨ k = 12 ∨ k = 13)) → c'.1 q k = c.1 q k) (s1 : c'.1 t 6 = nI (D' 0 23)) (s2 : c'.1 t 12 = nI (D' 0 24)) (s3 : c'.1 t 13 = nI (D' 0 25)) (s4 : c'.1 t 9 = nI (D' 0 7)) (s5 : c'.1 t 10 = nI (D' 0 8)) : drC D' t c' := by
  obtain ⟨⟨a1, a2, a3, a4, a5, a6, a7, a8, a9⟩, b, g, l1, l2, l3⟩ := h
  have e0 : ∀ b, b ≤ 3 → D' 0 b = D 0 b := fun b hb => e 0 b (by unfold sc0; omega)
  have e1 : ∀ a b, 1 ≤ a → D' a b = D a b := fun a b ha => e a b (by unfold sc0; omega)
  refine ⟨⟨?_, s1, ?_, ?_, s4, s5, s2, s3, ?_⟩, fun i hi => ?_, fun x hx => ?_, l1, fun i hi => ?_, fun l hl => ?_⟩
  · rw [e0 0 (by omega), o _ _ (by omega) (by omega) (by omega)]; exact a1
  · rw [e0 2 (by omega), o _ _ (by omega) (by omega) (by omega)]; exact a3
  · rw [e0 1 (by omega), o _ _ (by omega) (by omega) (by omega)]; exact a4
  · rw [e0 3 (by omega), o _ _ (by omega) (by omega) (by omega)]; exact a9
  · rw [e0 0 (by omega)] at hi
    exact ((b i hi).fr (fun k => o _ _ (by omega) (by omega) (by omega)) (fun k => o _ _ (by omega) (by omega) (by omega))).cg (fun a b h1 _ => e1 a b h1)
  · rw [e0 1 (by omega)] at hx
    rw [e1 11 x (by omega), e1 12 x (by omega), e1 13 x (by omega), o _ _ (by omega) (by omega) (by omega), o _ _ (by omega) (by omega) (by omega), o _ _ (by omega) (by omega) (by omega)]; exact g x hx
  · rw [e0 3 (by omega)] at hi
    rw [e1 40 i (by omega), e1 41 i (by omega), o _ _ (by omega) (by omega) (by omega), o _ _ (by omega) (by omega) (by omega)]; exact l2 i hi
  · rw [e1 42 l (by omega), e1 43 l (by omega), o _ _ (by omega) (by omega) (by omega), o _ _ (by omega) (by omega) (by omega)]; exact l3 l hl
theorem drM.up {D D' : Sp} {m m' : Hp} (h : drM D m) (e : ∀ a b, ¬ sc0 a b → D' a b = D a b) (o : ∀ q k, ¬ (q = 0 ∧ k = 17) → ¬ q = 3 → ¬ q = 4 → (q = 0 ∧ (16 ≤ k ∧ k ≤ 20 ∨ k = 43)) ∨ (5 ≤ q ∧ q ≤ 19) → m'.1 q k = m.1 q k) (s1 : m'.1 0 17 = nI (D' 0 23)) (s2 : m'.1 3 0 = nI (D' 0 24)) (s3 : m'.1 3 1 = nI (D' 0 25)) (s4 : m'.1 4 2 = nI (D' 0 7)) (s5 : m'.1 4 3 = nI (D' 0 8)) : drM D' m' := by
  obtain ⟨⟨a1, a2, a3, a4, a5, a6, a7, a8, a9, a10⟩, b, z, g, l2, l3⟩ := h
  have e0 : ∀ b, b ≤ 3 → D' 0 b = D 0 b := fun b hb => e 0 b (by unfold sc0; omega)
  have e1 : ∀ a b, 1 ≤ a → D' a b = D a b := fun a b ha => e a b (by unfold sc0; omega)
  have o' : ∀ q k, 5 ≤ q → q ≤ 19 → m'.1 q k = m.1 q k := fun q k h1 h2 => o q k (by omega) (by omega) (by omega) (by omega)
  refine ⟨⟨?_, s1, ?_, ?_, ?_, ?_, s2, s3, s4, s5⟩, fun i hi => ?_, fun i h1 h2 => ?_, fun x hx => ?_, fun i hi => ?_, fun l hl => ?_⟩
  · rw [e0 0 (by omega), o _ _ (by omega) (by omega) (by omega) (by omega)]; exact a1
  · rw [e0 2 (by omega), o _ _ (by omega) (by omega) (by omega) (by omega)]; exact a3
  · rw [e0 1 (by omega), o _ _ (by omega) (by omega) (by omega) (by omega)]; exact a4
  · rw [e0 3 (by omega), o _ _ (by omega) (by omega) (by omega) (by omega)]; exact a5
  · rw [e0 3 (by omega), o _ _ (by omega) (by omega) (by omega) (by omega)]; exact a6
  · rw [e0 0 (by omega)] at hi
    rw [e1 10 i (by omega), e1 2 i (by omega), e1 1 i (by omega), e1 4 i (by omega), e1 5 i (by omega), o' 5 _ (by omega) (by omega), o' 6 _ (by omega) (by omega), o' 7 _ (by omega) (by omega), o' 9 _ (by omega) (by omega), o' 10 _ (by omega) (by omega)]
    obtain ⟨b1, b2, b3, b4, b5, b6⟩ := b i hi
    exact ⟨b1, b2, b3, b4, b5, fun k hk => by rw [e1 7 _ (by omega), o' 8 _ (by omega) (by omega)]; exact b6 k hk⟩
  · rw [e0 0 (by omega)] at h1
    rw [o' 9 _ (by omega) (by omega), o' 10 _ (by omega) (by omega)]
    exact z i h1 h2
  · rw [e0 1 (by omega)] at hx
    rw [e1 11 x (by omega), e1 12 x (by omega), e1 13 x (by omega), o' 11 _ (by omega) (by omega), o' 12 _ (by omega) (by omega), o' 13 _ (by omega) (by omega)]; exact g x hx
  · rw [e0 3 (by omega)] at hi
    rw [e1 40 i (by omega), e1 44 i (by omega), e1 45 i (by omega), o' 17 _ (by omega) (by omega), o' 18 _ (by omega) (by omega), o' 19 _ (by omega) (by omega)]; exact l2 i hi
  · rw [e1 42 l (by omega), e1 43 l (by omega), o' 14 _ (by omega) (by omega), o' 15 _ (by omega) (by omega), o' 16 _ (by omega) (by omega)]; exact l3 l hl
theorem wfD.cg {D D' : Sp} (h : wfD D) (e : ∀ a b, ¬ sc0 a b → D' a b = D a b) (s1 : D' 0 23 ≤ 12) (s2 : D' 0 7 ≤ 100) (s3 : D' 0 8 ≤ 99999) (s4 : D' 0 24 ≤ 1) (s5 : D' 0 25 ≤ 1) : wfD D' := by
  have e0 : ∀ b, b ≤ 3 → D' 0 b = D 0 b := fun b hb => e 0 b (by unfold sc0; omega)
  have e1 : ∀ a b, 1 ≤ a → D' a b = D a b := fun a b ha => e a b (by unfold sc0; omega)
  obtain ⟨h1, h2, h3, h4, h5, h6, h7, h8, h9, h10, h11⟩ := h
  refine ⟨by rw [e0 0 (by omega)]; exact h1, by rw [e0 1 (by omega)]; exact h2, by rw [e0 2 (by omega)]; exact h3, s1, s2, s3, s4, s5, fun i hi => ?_, fun g hg => ?_, h11.cg (e0 3 (by omega)) (fun a b h _ => e1 a b (by omega))⟩
  · rw [e0 0 (by omega)] at hi
    rw [e1 1 i (by omega), e1 2 i (by omega), e1 4 i (by omega), e1 5 i (by omega)]
    obtain ⟨b1, b2, b3, b4, b5, b6⟩ := h9 i hi
    exact ⟨b1, b2, b3, b4, b5, fun k hk => by rw [e1 7 _ (by omega)]; exact b6 k hk⟩
  · rw [e0 1 (by omega)] at hg
    rw [e1 12 g (by omega), e1 13 g (by omega)]; exact h10 g hg
/-- what a line comes to, on both sides -/
def LO (T : Nat → Nat) (E t : Nat) (c0 m0 : Hp) (s0 : Nat) (rc : Option Hp) (rm : Option (Int32 × Hp)) : Prop := (∃ D p s x a c m, rc = some c ∧ rm = some (1, m) ∧ RB T E t c0 m0 D D p s x a c m ∧ s0 < s) ∨ (∃ f s c m, rc = some c ∧ rm = some (0, m) ∧ FCl t c0 f s c ∧ FRf m0 f s m)
theorem frR.rf {t : Nat} {c : Hp} : frR t c c := ⟨fun _ _ _ _ _ _ _ => rfl, fun _ _ _ => rfl⟩
theorem frS.rf {m : Hp} : frS m m := ⟨fun _ _ _ => rfl, rfl⟩
section READ2
variable {T : Nat → Nat} {E t : Nat} {c0 m0 : Hp} {D D2 : Sp} {p s x a : Nat} {c m : Hp}
theorem RB.wC {D' : Sp} {q k : Nat} {v : Int32} (h : RB T E t c0 m0 D D2 p s x a c m) (hq : (t ≤ q ∧ q ≤ t + 22) ∧ ¬ (q = t ∧ k = 11)) (hz : ∀ i, i < 6 → q = t + 1 + 1 + 2 * i → ¬ (k = 6 ∨ k = 7 ∨ k = 8 ∨ k = 10)) (hd : drC D' t (wI c q k v)) (hw : wfD D') : RB T E t c0 m0 D' D2 p s x a (wI c q k v) m := by
  obtain ⟨h1, ⟨f1, f2, f3, f4⟩, ⟨r1, r2⟩, d1, d2, w, z, g1, g2⟩ := h
  exact ⟨h1.mv (fun _ => wI_o (by omega)) (fun _ => wI_o (by omega)) (fun _ _ _ => rfl) (fun _ => rfl) (fun _ => rfl), ⟨(wI_o (by omega)).trans f1, (wI_o (by omega)).trans f2, f3, f4⟩, ⟨r1, r2⟩, hd, d2, hw, z.w hz, g1.w hq, g2⟩
theorem RB.wM {D' : Sp} {q k : Nat} {v : Int32} (h : RB T E t c0 m0 D D2 p s x a c m) (hq : rdM q k) (hq2 : ¬ (q = 0 ∧ 4 ≤ k ∧ k ≤ 10)) (hd : drM D' (wI m q k v)) : RB T E t c0 m0 D D' p s x a c (wI m q k v) := by
  obtain ⟨h1, ⟨f1, f2, f3, f4⟩, ⟨r1, r2⟩, d1, d2, w, z, g1, g2⟩ := h
  have hq3 : q ≠ 1 ∧ q ≠ 2 := by unfold rdM at hq; omega
  exact ⟨h1.mv (fun _ => rfl) (fun _ => rfl) (fun k _ _ => wI_o (by omega)) (fun _ => wI_o (by omega)) (fun _ => wI_o (by omega)), ⟨f1, f2, (wI_o (by omega)).trans f3, (wI_o (by omega)).trans f4⟩, ⟨r1, r2⟩, d1, hd, w, z, g1, g2.w hq⟩
theorem RB.lt (h : RB T E t c0 m0 D D2 p s x a c m) (hx : x ≠ 0) : s < p := h.1.2.2.2.2.2.2.2.2.2.2 hx
theorem bzz : bz 0 = true := by decide
theorem wI_r {h : Hp} {p k : Nat} {v : Int32} : (wI h p k v).2.2 = h.2.2 := rfl
theorem damp_line (h : RB T E t c0 m0 D D p s x a c m) (hx : x ≠ 0) : LO T E t c0 m0 s (f7_readDamp c) (f12_onceLine 0 100 m) := by
  have hkd := kd10 h.2.2.1.2
  have hr := h.2.2.1.1
  have hsp := h.lt hx
  have d1 := h.2.2.2.1
  have d2 := h.2.2.2.2.1
  have w := h.2.2.2.2.2.1
  have w24 : D 0 24 ≤ 1 := w.2.2.2.2.2.2.1
  have v12 : c.1 t 12 = nI (D 0 24) := d1.1.2.2.2.2.2.2.1
  have v30 : m.1 3 0 = nI (D 0 24) := d2.1.2.2.2.2.2.2.1
  have c02 : inb 0 2 = true ∧ ix 0 = 0 ∧ inb (2 + 0) 4 = true ∧ ix (2 + 0) = 2 + 0 := by decide
  have wt : ∀ {h' : Hp} {k : Nat} {v : Int32} {f s' : Nat}, 9 ≤ k ∧ ¬ k = 11 → FCl t c0 f s' h' → FCl t c0 f s' (wI h' t k v) := fun hk hh => hh.w (by omega) (fun i _ z => by omega) (by omega)
  by_cases q : D 0 24 = 0
  · have z12 : c.1 t 12 = 0 := by rw [v12, q]; rfl
    have z30 : m.1 3 0 = 0 := by rw [v30, q]; rfl
    have dm1 : drM (up2 D 0 24 1) (wI m 3 0 1) := d2.up (fun a b n => up2_of (fun e => n (by unfold sc0; omega))) (fun q k _ h3 _ _ => wI_o (by omega)) ((wI_o (by omega)).trans (d2.1.2.1.trans (by rw [up2_of (by omega)]))) wI_s ((wI_o (by omega)).trans (d2.1.2.2.2.2.2.2.2.1.trans (by rw [up2_of (by omega)]))) ((wI_o (by omega)).trans (d2.1.2.2.2.2.2.2.2.2.1.trans (by rw [up2_of (by omega)]))) ((wI_o (by omega)).trans (d2.1.2.2.2.2.2.2.2.2.2.trans (by rw [up2_of (by omega)])))
    have h1 : RB T E t c0 m0 D (up2 D 0 24 1) p s x a c (wI m 3 0 1) := h.wM (by unfold rdM; omega) (by omega) dm1
    obtain ⟨c1, m1, p1, s1, x1, a1, e1, e2, k1, hp1, fc1, fm1⟩ := h1.next
    have es : f7_step c = some c1 := by simp only [f7_step, h.2.1.1, if_true, e1, Option.bind_some]
    have hr1 := k1.2.2.1.1
    have ss1 : s1 ≤ p1 := k1.1.2.2.2.2.2.1
    rcases k1.num (lo := 0) (hi := 100) (by omega) (by omega) with ⟨v, c2, m2, p2, s2, x2, a2, hv0, hv, n1, n2, n3, k2, hp2, fc2, fm2, -, -⟩ | ⟨f, c2, m2, r, n1, -, n2, g1, g2⟩
    · have n1 : f7_takeNumber 0 100 c1 = some (nI v, c2) := n1
      have n2 : f12_number 0 100 m1 = some (1, m2) := n2
      have hr2 := k2.2.2.1.1
      have dC := k2.2.2.2.1
      have dM := k2.2.2.2.2.1
      have w2 := k2.2.2.2.2.2.1
      have hD : ∀ a b, ¬ sc0 a b → up2 (up2 D 0 24 1) 0 7 v a b = D a b := fun a b n => by
        unfold sc0 at n
        rw [up2_of (by omega), up2_of (by omega)]
      have hD2 : ∀ b, ¬ b = 7 → ¬ b = 24 → up2 (up2 D 0 24 1) 0 7 v 0 b = D 0 b := fun b n1 n2 => by rw [up2_of (by omega), up2_of (by omega)]
      have hDv : up2 (up2 D 0 24 1) 0 7 v 0 7 = v := up2_s
      have hDt : up2 (up2 D 0 24 1) 0 7 v 0 24 = 1 := (up2_of (by omega)).trans up2_s
      generalize up2 (up2 D 0 24 1) 0 7 v = D' at hD hD2 hDv hDt
      have wD : wfD D' := w.cg hD (by rw [hD2 23 (by omega) (by omega)]; exact w.2.2.2.1) (by rw [hDv]; exact hv) (by rw [hD2 8 (by omega) (by omega)]; exact w.2.2.2.2.2.1) (by rw [hDt]; omega) (by rw [hD2 25 (by omega) (by omega)]; exact w.2.2.2.2.2.2.2.1)
      have o : ∀ q k, ¬ (q = t ∧ (k = 9 ∨ k = 12)) → (wI (wI c2 t 9 (nI v)) t 12 1).1 q k = c2.1 q k := fun q k n => (wI_o (by omega)).trans (wI_o (by omega))
      have dC' : drC D' t (wI (wI c2 t 9 (nI v)) t 12 1) := dC.up w.1 hD (fun q k _ _ n => o q k (by omega)) (by rw [hD2 23 (by omega) (by omega), o _ _ (by omega)]; exact dC.1.2.1) (by rw [hDt, wI_s]; rfl) (by rw [hD2 25 (by omega) (by omega), o _ _ (by omega)]; exact dC.1.2.2.2.2.2.2.2.1) (by rw [hDv, wI_o (by omega), wI_s]) (by rw [hD2 8 (by omega) (by omega), o _ _ (by omega)]; exact dC.1.2.2.2.2.2.1)
      have dM' : drM D' (wI m2 4 2 (nI v)) := dM.up (fun a b n => (hD a b n).trans (up2_of (fun e => n (by unfold sc0; omega))).symm) (fun q k _ _ h4 _ => wI_o (by omega)) (by rw [hD2 23 (by omega) (by omega), wI_o (by omega), dM.1.2.1, up2_of (by omega)]) (by rw [hDt, wI_o (by omega), dM.1.2.2.2.2.2.2.1, up2_s]) (by rw [hD2 25 (by omega) (by omega), wI_o (by omega), dM.1.2.2.2.2.2.2.2.1, up2_of (by omega)]) (by rw [hDv, wI_s]) (by rw [hD2 8 (by omega) (by omega), wI_o (by omega), dM.1.2.2.2.2.2.2.2.2.2, up2_of (by omega)])
      refine Or.inl ⟨D', p2, s2, x2, a2, wI (wI c2 t 9 (nI v)) t 12 1, wI m2 4 2 (nI v), ?_, ?_, ?_, by omega⟩
      · simp only [f7_readDamp, f7_readDamp_16, hr, Option.bind_some, gd, hkd, if_true, z12, f7_check, one_ne, if_false, es, hr1, n1, lt, wI_r, hr2]
      · simp only [f12_onceLine, gd, c02, if_true, z30, lt, e2, Option.bind_some, n2, one_ne, if_false, n3]
      · obtain ⟨b1, ⟨f1, f2, f3, f4⟩, b3, -, -, -, z, y1, y2⟩ := k2
        exact ⟨b1.mv (fun _ => o _ _ (by omega)) (fun _ => o _ _ (by omega)) (fun k _ _ => wI_o (by omega)) (fun _ => wI_o (by omega)) (fun _ => wI_o (by omega)), ⟨(o _ _ (by omega)).trans f1, (o _ _ (by omega)).trans f2, (wI_o (by omega)).trans f3, (wI_o (by omega)).trans f4⟩, b3, dC', dM', wD, (z.w (fun i _ e => by omega)).w (fun i _ e => by omega), (y1.w (by omega)).w (by omega), y2.w (by unfold rdM; omega)⟩
    · have n1 : f7_takeNumber 0 100 c1 = some (r, c2) := n1
      have n2 : f12_number 0 100 m1 = some (0, m2) := n2
      have hr2 := g1.2.2.2.2.1.1
      refine Or.inr ⟨f, s1, wI (wI c2 t 9 r) t 12 1, m2, ?_, ?_, wt (by omega) (wt (by omega) g1), g2⟩
      · simp only [f7_readDamp, f7_readDamp_16, hr, Option.bind_some, gd, hkd, if_true, z12, f7_check, one_ne, if_false, es, hr1, n1, lt, wI_r, hr2]
      · simp only [f12_onceLine, gd, c02, if_true, z30, lt, e2, Option.bind_some, n2]
  · have q1 : D 0 24 = 1 := by omega
    have z12 : ¬ c.1 t 12 = 0 := by rw [v12, q1]; decide
    have z30 : ¬ m.1 3 0 = 0 := by rw [v30, q1]; decide
    obtain ⟨c1, m1, e1, e2, g1, g2⟩ := h.fail (f := 3) (by omega)
    have e1 : f7_fail 3 c = some c1 := e1
    have e2 : f12_wrong 3 m = some (0, m1) := e2
    have hr1 := g1.2.2.2.2.1.1
    refine Or.inr ⟨3, s, wI (wI c1 t 9 (c1.1 1 6)) t 12 1, m1, ?_, ?_, wt (by omega) (wt (by omega) g1), g2⟩
    · simp only [f7_readDamp, f7_readDamp_16, hr, Option.bind_some, gd, hkd, if_true, z12, if_false, f7_check, e1, g1.step, hr1, g1.num, lt, wI_r]
    · simp only [f12_onceLine, gd, c02, if_true, z30, if_false, e2, Option.bind_some, bzz]
theorem seed_line (h : RB T E t c0 m0 D D p s x a c m) (hx : x ≠ 0) : LO T E t c0 m0 s (f7_readSeed c) (f12_onceLine 1 99999 m) := by
  have hkd := kd10 h.2.2.1.2
  have hr := h.2.2.1.1
  have hsp := h.lt hx
  have d1 := h.2.2.2.1
  have d2 := h.2.2.2.2.1
  have w := h.2.2.2.2.2.1
  have w24 : D 0 25 ≤ 1 := w.2.2.2.2.2.2.2.1
  have v12 : c.1 t 13 = nI (D 0 25) := d1.1.2.2.2.2.2.2.2.1
  have v30 : m.1 3 1 = nI (D 0 25) := d2.1.2.2.2.2.2.2.2.1
  have c02 : inb 1 2 = true ∧ ix 1 = 1 ∧ inb (2 + 1) 4 = true ∧ ix (2 + 1) = 2 + 1 := by decide
  have wt : ∀ {h' : Hp} {k : Nat} {v : Int32} {f s' : Nat}, 9 ≤ k ∧ ¬ k = 11 → FCl t c0 f s' h' → FCl t c0 f s' (wI h' t k v) := fun hk hh => hh.w (by omega) (fun i _ z => by omega) (by omega)
  by_cases q : D 0 25 = 0
  · have z12 : c.1 t 13 = 0 := by rw [v12, q]; rfl
    have z30 : m.1 3 1 = 0 := by rw [v30, q]; rfl
    have dm1 : drM (up2 D 0 25 1) (wI m 3 1 1) := d2.up (fun a b n => up2_of (fun e => n (by unfold sc0; omega))) (fun q k _ h3 _ _ => wI_o (by omega)) ((wI_o (by omega)).trans (d2.1.2.1.trans (by rw [up2_of (by omega)]))) ((wI_o (by omega)).trans (d2.1.2.2.2.2.2.2.1.trans (by rw [up2_of (by omega)]))) wI_s ((wI_o (by omega)).trans (d2.1.2.2.2.2.2.2.2.2.1.trans (by rw [up2_of (by omega)]))) ((wI_o (by omega)).trans (d2.1.2.2.2.2.2.2.2.2.2.trans (by rw [up2_of (by omega)])))
    have h1 : RB T E t c0 m0 D (up2 D 0 25 1) p s x a c (wI m 3 1 1) := h.wM (by unfold rdM; omega) (by omega) dm1
    obtain ⟨c1, m1, p1, s1, x1, a1, e1, e2, k1, hp1, fc1, fm1⟩ := h1.next
    have es : f7_step c = some c1 := by simp only [f7_step, h.2.1.1, if_true, e1, Option.bind_some]
    have hr1 := k1.2.2.1.1
    have ss1 : s1 ≤ p1 := k1.1.2.2.2.2.2.1
    rcases k1.num (lo := 0) (hi := 99999) (by omega) (by omega) with ⟨v, c2, m2, p2, s2, x2, a2, hv0, hv, n1, n2, n3, k2, hp2, fc2, fm2, -, -⟩ | ⟨f, c2, m2, r, n1, -, n2, g1, g2⟩
    · have n1 : f7_takeNumber 0 99999 c1 = some (nI v, c2) := n1
      have n2 : f12_number 0 99999 m1 = some (1, m2) := n2
      have hr2 := k2.2.2.1.1
      have dC := k2.2.2.2.1
      have dM := k2.2.2.2.2.1
      have w2 := k2.2.2.2.2.2.1
      have hD : ∀ a b, ¬ sc0 a b → up2 (up2 D 0 25 1) 0 8 v a b = D a b := fun a b n => by
        unfold sc0 at n
        rw [up2_of (by omega), up2_of (by omega)]
      have hD2 : ∀ b, ¬ b = 8 → ¬ b = 25 → up2 (up2 D 0 25 1) 0 8 v 0 b = D 0 b := fun b n1 n2 => by rw [up2_of (by omega), up2_of (by omega)]
      have hDv : up2 (up2 D 0 25 1) 0 8 v 0 8 = v := up2_s
      have hDt : up2 (up2 D 0 25 1) 0 8 v 0 25 = 1 := (up2_of (by omega)).trans up2_s
      generalize up2 (up2 D 0 25 1) 0 8 v = D' at hD hD2 hDv hDt
      have wD : wfD D' := w.cg hD (by rw [hD2 23 (by omega) (by omega)]; exact w.2.2.2.1) (by rw [hD2 7 (by omega) (by omega)]; exact w.2.2.2.2.1) (by rw [hDv]; exact hv) (by rw [hD2 24 (by omega) (by omega)]; exact w.2.2.2.2.2.2.1) (by rw [hDt]; omega)
      have o : ∀ q k, ¬ (q = t ∧ (k = 10 ∨ k = 13)) → (wI (wI c2 t 10 (nI v)) t 13 1).1 q k = c2.1 q k := fun q k n => (wI_o (by omega)).trans (wI_o (by omega))
      have dC' : drC D' t (wI (wI c2 t 10 (nI v)) t 13 1) := dC.up w.1 hD (fun q k _ _ n => o q k (by omega)) (by rw [hD2 23 (by omega) (by omega), o _ _ (by omega)]; exact dC.1.2.1) (by rw [hD2 24 (by omega) (by omega), o _ _ (by omega)]; exact dC.1.2.2.2.2.2.2.1) (by rw [hDt, wI_s]; rfl) (by rw [hD2 7 (by omega) (by omega), o _ _ (by omega)]; exact dC.1.2.2.2.2.1) (by rw [hDv, wI_o (by omega), wI_s])
      have dM' : drM D' (wI m2 4 3 (nI v)) := dM.up (fun a b n => (hD a b n).trans (up2_of (fun e => n (by unfold sc0; omega))).symm) (fun q k _ _ h4 _ => wI_o (by omega)) (by rw [hD2 23 (by omega) (by omega), wI_o (by omega), dM.1.2.1, up2_of (by omega)]) (by rw [hD2 24 (by omega) (by omega), wI_o (by omega), dM.1.2.2.2.2.2.2.1, up2_of (by omega)]) (by rw [hDt, wI_o (by omega), dM.1.2.2.2.2.2.2.2.1, up2_s]) (by rw [hD2 7 (by omega) (by omega), wI_o (by omega), dM.1.2.2.2.2.2.2.2.2.1, up2_of (by omega)]) (by rw [hDv, wI_s])
      refine Or.inl ⟨D', p2, s2, x2, a2, wI (wI c2 t 10 (nI v)) t 13 1, wI m2 4 3 (nI v), ?_, ?_, ?_, by omega⟩
      · simp only [f7_readSeed, f7_readSeed_16, hr, Option.bind_some, gd, hkd, if_true, z12, f7_check, one_ne, if_false, es, hr1, n1, lt, wI_r, hr2]
      · simp only [f12_onceLine, gd, c02, if_true, z30, lt, e2, Option.bind_some, n2, one_ne, if_false, n3]
      · obtain ⟨b1, ⟨f1, f2, f3, f4⟩, b3, -, -, -, z, y1, y2⟩ := k2
        exact ⟨b1.mv (fun _ => o _ _ (by omega)) (fun _ => o _ _ (by omega)) (fun k _ _ => wI_o (by omega)) (fun _ => wI_o (by omega)) (fun _ => wI_o (by omega)), ⟨(o _ _ (by omega)).trans f1, (o _ _ (by omega)).trans f2, (wI_o (by omega)).trans f3, (wI_o (by omega)).trans f4⟩, b3, dC', dM', wD, (z.w (fun i _ e => by omega)).w (fun i _ e => by omega), (y1.w (by omega)).w (by omega), y2.w (by unfold rdM; omega)⟩
    · have n1 : f7_takeNumber 0 99999 c1 = some (r, c2) := n1
      have n2 : f12_number 0 99999 m1 = some (0, m2) := n2
      have hr2 := g1.2.2.2.2.1.1
      refine Or.inr ⟨f, s1, wI (wI c2 t 10 r) t 13 1, m2, ?_, ?_, wt (by omega) (wt (by omega) g1), g2⟩
      · simp only [f7_readSeed, f7_readSeed_16, hr, Option.bind_some, gd, hkd, if_true, z12, f7_check, one_ne, if_false, es, hr1, n1, lt, wI_r, hr2]
      · simp only [f12_onceLine, gd, c02, if_true, z30, lt, e2, Option.bind_some, n2]
  · have q1 : D 0 25 = 1 := by omega
    have z12 : ¬ c.1 t 13 = 0 := by rw [v12, q1]; decide
    have z30 : ¬ m.1 3 1 = 0 := by rw [v30, q1]; decide
    obtain ⟨c1, m1, e1, e2, g1, g2⟩ := h.fail (f := 3) (by omega)
    have e1 : f7_fail 3 c = some c1 := e1
    have e2 : f12_wrong 3 m = some (0, m1) := e2
    have hr1 := g1.2.2.2.2.1.1
    refine Or.inr ⟨3, s, wI (wI c1 t 10 (c1.1 1 6)) t 13 1, m1, ?_, ?_, wt (by omega) (wt (by omega) g1), g2⟩
    · simp only [f7_readSeed, f7_readSeed_16, hr, Option.bind_some, gd, hkd, if_true, z12, if_false, f7_check, e1, g1.step, hr1, g1.num, lt, wI_r]
    · simp only [f12_onceLine, gd, c02, if_true, z30, if_false, e2, Option.bind_some, bzz]
end READ2
