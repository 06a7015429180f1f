/-! Reading a text: all its lines. -/
def frQ (t : Nat) (c c' : Hp) : Prop := (∀ q k, ¬ (q = 1 ∧ 3 ≤ k ∧ k ≤ 6) → ¬ (q = 3 ∧ (k = 3 ∨ k = 4)) → ¬ q = 4 → ¬ q = 5 → ¬ (t ≤ q ∧ q ≤ t + 22) → c'.1 q k = c.1 q k) ∧ ∀ q k, ¬ (q = 4 ∧ k = 2) → c'.2.2 q k = c.2.2 q k
theorem frQ.tr {t : Nat} {a b c : Hp} (h : frQ t a b) (h' : frQ t b c) : frQ t a c := ⟨fun q k n1 n2 n3 n4 n5 => (h'.1 q k n1 n2 n3 n4 n5).trans (h.1 q k n1 n2 n3 n4 n5), fun q k n => (h'.2 q k n).trans (h.2 q k n)⟩
theorem frR.q {t : Nat} {a b : Hp} (h : frR t a b) : frQ t a b := ⟨fun q k n1 n2 n3 n4 n5 => h.1 q k n1 n2 n3 n4 (fun z => n5 z.1), h.2⟩
section LINES4
variable {T : Nat → Nat} {E t : Nat} {c0 m0 : Hp} {D D2 : Sp} {p s x a l f : Nat} {c m : Hp}
theorem RB.base (h : RB T E t c0 m0 D D p s x a c m) : RB T E t c m D D p s x a c m := ⟨h.1, h.2.1, h.2.2.1, h.2.2.2.1, h.2.2.2.2.1, h.2.2.2.2.2.1, h.2.2.2.2.2.2.1, frR.rf, frS.rf⟩
theorem RB.w11 {v : Int32} (h : RB T E t c0 m0 D D p s x a c m) : RB T E t (wI c t 11 v) m D D p s x a (wI c t 11 v) m := by
  obtain ⟨h1, ⟨f1, f2, f3, f4⟩, ⟨r1, r2⟩, d1, d2, w, z, -, -⟩ := h
  have hn := w.1
  refine ⟨h1.mv (fun _ => wI_o (by omega)) (fun _ => wI_o (by omega)) (fun _ _ _ => rfl) (fun _ => rfl) (fun _ => rfl), ⟨(wI_o (by omega)).trans f1, (wI_o (by omega)).trans f2, f3, f4⟩, ⟨r1, r2⟩, ?_, d2, w, z.w (fun i _ _ => by omega), frR.rf, frS.rf⟩
  obtain ⟨⟨a1, a2, a3, a4, a5, a6, a7, a8, a9⟩, b, g, l1, l2, l3⟩ := d1
  refine ⟨⟨(wI_o (by omega)).trans a1, (wI_o (by omega)).trans a2, (wI_o (by omega)).trans a3, (wI_o (by omega)).trans a4, (wI_o (by omega)).trans a5, (wI_o (by omega)).trans a6, (wI_o (by omega)).trans a7, (wI_o (by omega)).trans a8, (wI_o (by omega)).trans a9⟩, fun i hi => (b i hi).fr (fun k => wI_o (by omega)) (fun k => wI_o (by omega)), fun x hx => ⟨(wI_o (by omega)).trans (g x hx).1, (wI_o (by omega)).trans (g x hx).2.1, (wI_o (by omega)).trans (g x hx).2.2⟩, l1, fun i hi => ⟨(wI_o (by omega)).trans (l2 i hi).1, (wI_o (by omega)).trans (l2 i hi).2⟩, fun l hl => ⟨(wI_o (by omega)).trans (l3 l hl).1, (wI_o (by omega)).trans (l3 l hl).2⟩⟩
theorem text_loop : ∀ (n i : Nat) (D : Sp) (p s x a : Nat) (c m : Hp), i + n = 701 → i ≤ s → RB T E t c m D D p s x a c m → c.1 t 11 = nI i → (∃ D' p' s' a' c' m' j, f7_readAll_32 (nI i) c = some c' ∧ f12_text_55 (nI i) m = f12_text_77 (nI j) m' ∧ RB T E t c' m' D' D' p' s' 0 a' c' m' ∧ c'.1 t 11 = nI j ∧ j ≤ 700 ∧ frQ t c c' ∧ frS m m') ∨ (∃ f s' c' m' cb, f7_readAll_32 (nI i) c = some c' ∧ f12_text_55 (nI i) m = some (-1, m') ∧ FCl t cb f s' c' ∧ FRf m f s' m' ∧ frQ t c c')
  | 0, i, D, p, s, x, a, c, m, hn, his, h, h11 => by
    have k := h.1
    have : E ≤ 700 := k.1.1
    have := k.2.2.2.2.2.1
    have := k.2.2.2.2.2.2.1
    omega
  | n + 1, i, D, p, s, x, a, c, m, hn, his, h, h11 => by
    have k := h.1
    have hE : E ≤ 700 := k.1.1
    have hsp : s ≤ p := k.2.2.2.2.2.1
    have hpE : p ≤ E := k.2.2.2.2.2.2.1
    have hxp := k.2.2.2.2.2.2.2.2.2.2
    have tk := k.2.2.2.2.2.2.2.1
    have hkd := kd10 h.2.2.1.2
    by_cases x0 : x = 0
    · subst x0
      refine Or.inl ⟨D, p, s, a, c, m, i, ?_, ?_, h, h11, by omega, frR.q frR.rf, frS.rf⟩
      · unfold f7_readAll_32
        refine lp_inr (o := some c) ?_
        have t1 : c.1 1 5 = 0 := tk.1
        simp only [f7_readAll_32_s, h.2.1.1, t1, if_true, ite_self, Option.map_some]
      · unfold f12_text_55
        refine lp_inr ?_
        have t1 : m.1 0 8 = 0 := tk.2
        simp only [f12_text_55_s, t1, if_true]
    · have hlt := hxp x0
      have g : ¬ (700 : Int32) ≤ nI i := by rw [lit]; exact nI_ge (by omega) (by omega)
      have nk : ¬ c.1 1 5 = 0 ∧ ¬ m.1 0 8 = 0 := by
        rcases x with _ | _ | _ | _ | _ | _ | _
        · exact absurd rfl x0
        · rw [tk.1]
          refine ⟨by decide, ?_⟩
          rcases tk.2.2.2 with ⟨w, -, -, u, -⟩ | ⟨-, u, -⟩ <;> rw [u] <;> decide
        · rw [tk.1, tk.2.1]; decide
        · rw [tk.1, tk.2.1]; decide
        · rw [tk.1, tk.2.1]; decide
        · rw [tk.1]
          refine ⟨by decide, ?_⟩
          rcases tk.2 with u | ⟨u, -⟩ <;> rw [u] <;> decide
        · exact tk.elim
      rcases line_all h x0 with ⟨D1, p1, s1, x1, a1, c1, m1, e1, e2, k1, hs1⟩ | ⟨f, s1, c1, m1, e1, e2, g1, g2⟩
      · have r1 := k1.2.2.1.1
        have fr := k1.2.2.2.2.2.2.2.1
        have fs := k1.2.2.2.2.2.2.2.2
        have ht := h.2.2.1.2
        have u11 : c1.1 t 11 = nI i := (fr.1 t 11 (by omega) (by omega) (by omega) (by omega) (by omega)).trans h11
        have l1 : f7_readAll_32 (nI i) c = f7_readAll_32 (nI (i + 1)) (wI c1 t 11 (nI (i + 1))) := by
          unfold f7_readAll_32
          refine lp_inl ?_
          simp only [f7_readAll_32_s, g, if_false, h.2.1.1, if_true, nk.1, e1, Option.bind_some, k1.2.1.1, r1, gd, hkd, lt, u11, nI_1, f7_readAll_80]
        have l2 : f12_text_55 (nI i) m = f12_text_55 (nI (i + 1)) m1 := by
          unfold f12_text_55
          refine lp_inl ?_
          simp only [f12_text_55_s, nk.2, if_false, e2, Option.bind_some, one_ne, nI_1]
        have fq : frQ t c (wI c1 t 11 (nI (i + 1))) := frQ.tr fr.q ⟨fun q k _ _ _ _ n5 => wI_o (by omega), fun _ _ _ => rfl⟩
        rw [l1, l2]
        rcases text_loop n (i + 1) D1 p1 s1 x1 a1 (wI c1 t 11 (nI (i + 1))) m1 (by omega) (by omega) k1.w11 wI_s with ⟨D', p', s', a', c', m', j, q1, q2, q3, q4, q5, q6, q7⟩ | ⟨f, s', c', m', cb, q1, q2, q3, q4, q5⟩
        · exact Or.inl ⟨D', p', s', a', c', m', j, q1, q2, q3, q4, q5, fq.tr q6, fs.tr q7⟩
        · exact Or.inr ⟨f, s', c', m', cb, q1, q2, q3, ⟨q4.1, q4.2.1, fs.tr q4.2.2⟩, fq.tr q5⟩
      · refine Or.inr ⟨f, s1, c1, m1, c, ?_, ?_, g1, g2, g1.2.2.2.2.2.2.1.q⟩
        · have l1 : f7_readAll_32 (nI i) c = f7_readAll_32 (nI (i + 1)) c1 := by
            unfold f7_readAll_32
            refine lp_inl ?_
            simp only [f7_readAll_32_s, g, if_false, h.2.1.1, if_true, nk.1, e1, Option.bind_some, g1.ne, f7_readAll_80, nI_1]
          rw [l1]
          unfold f7_readAll_32
          refine lp_inr (o := some c1) ?_
          simp only [f7_readAll_32_s, g1.ne, if_false, ite_self, Option.map_some]
        · unfold f12_text_55
          refine lp_inr (o := some (-1, m1)) ?_
          simp only [f12_text_55_s, nk.2, if_false, e2, Option.bind_some, if_true, Option.map_some]
end LINES4
