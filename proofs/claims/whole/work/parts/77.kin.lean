/-! Reading a text: kin. -/
theorem bor6 : ∀ x, x < 64 → ∀ k, k < 6 → nI x ||| ((1 : Int32) <<< (nI k &&& 31)) = nI (x ||| 2 ^ k) ∧ x ||| 2 ^ k < 64 ∧ ∀ i, i < 6 → tb (x ||| 2 ^ k) i = (decide (i = k) || tb x i) := by decide +kernel
section READ7
variable {T : Nat → Nat} {E t : Nat} {c0 m0 : Hp} {D D2 : Sp} {p s x a : Nat} {c m : Hp}
theorem FCl.kin18 {f : Nat} (h : FCl t c0 f s c) (s0 : Int32) : f7_readKin_18 s0 c = some c := by
  obtain ⟨r, er⟩ := h.takeBox
  simp only [f7_readKin_18, h.check, h.step, er, Option.bind_some, h.ne, if_false, f7_readKin_141]
theorem FCl.kin84 {f : Nat} {j k : Nat} (h : FCl t c0 f s c) (hj : j < 6) (hk : k < 6) (s0 : Int32) : ∃ c', f7_readKin_84 (nI j) (nI k) s0 c = some c' ∧ FCl t c0 f s c' := by
  have hr := h.2.2.2.2.1.1
  have hkd := kd10 h.2.2.2.2.1.2
  have g1 : ∀ u, FCl t c0 f s (wI c (t + 1 + 1 + 2 * j) 4 u) := fun u => h.w (by omega) (fun i _ _ => by omega) (by omega)
  have g2 : ∀ u u', FCl t c0 f s (wI (wI c (t + 1 + 1 + 2 * j) 4 u) (t + 1 + 1 + 2 * k) 4 u') := fun u u' => (g1 u).w (by omega) (fun i _ _ => by omega) (by omega)
  have g3 : ∀ u u' u'', FCl t c0 f s (wI (wI (wI c (t + 1 + 1 + 2 * j) 4 u) (t + 1 + 1 + 2 * k) 4 u') t 7 u'') := fun u u' u'' => (g2 u u').w (by omega) (fun i _ _ => by omega) (by omega)
  refine ⟨_, ?_, g3 (c.1 (t + 1 + 1 + 2 * j) 4 ||| 1 <<< (nI k &&& 31)) ((wI c (t + 1 + 1 + 2 * j) 4 (c.1 (t + 1 + 1 + 2 * j) 4 ||| 1 <<< (nI k &&& 31))).1 (t + 1 + 1 + 2 * k) 4 ||| 1 <<< (nI j &&& 31)) ((wI (wI c (t + 1 + 1 + 2 * j) 4 (c.1 (t + 1 + 1 + 2 * j) 4 ||| 1 <<< (nI k &&& 31))) (t + 1 + 1 + 2 * k) 4 ((wI c (t + 1 + 1 + 2 * j) 4 (c.1 (t + 1 + 1 + 2 * j) 4 ||| 1 <<< (nI k &&& 31))).1 (t + 1 + 1 + 2 * k) 4 ||| 1 <<< (nI j &&& 31))).1 t 7 + 1)⟩
  simp only [f7_readKin_84, h.check, Option.bind_some, hr, gd, hkd, if_true, inb_t hj (by omega), inb_t hk (by omega), ix_nI (show j < 2 ^ 31 by omega), ix_nI (show k < 2 ^ 31 by omega), lt, wI_r, f7_readKin_141, (g3 _ _ _).step]
theorem kin_line (h : RB T E t c0 m0 D D p s x a c m) (hx : x ≠ 0) : LO T E t c0 m0 s (f7_readKin c) (f12_kinLine m) := by
  have hkd := kd10 h.2.2.1.2
  have hr := h.2.2.1.1
  have ht := h.2.2.1.2
  have hsp := h.lt hx
  have d1 := h.2.2.2.1
  have d2 := h.2.2.2.2.1
  have w := h.2.2.2.2.2.1
  have v8 : c.1 t 7 = nI (D 0 2) := d1.1.2.2.1
  have v19 : m.1 0 18 = nI (D 0 2) := d2.1.2.2.1
  have w1 := w.2.2.1
  have w0 := w.1
  by_cases q : D 0 2 = 9
  · obtain ⟨c1, m1, e1, e2, g1, g2⟩ := h.fail (f := 2) (by omega)
    have e1 : f7_fail 2 c = some c1 := e1
    have e2 : f12_wrong 2 m = some (0, m1) := e2
    have z8 : (9 : Int32) ≤ c.1 t 7 := by rw [v8, q]; decide
    have z19 : m.1 0 18 = 9 := by rw [v19, q]; rfl
    have hg := g1.kin18 0
    refine Or.inr ⟨2, s, c1, m1, ?_, ?_, g1, g2⟩
    · simp only [f7_readKin, hr, Option.bind_some, gd, hkd, if_true, z8]
      unfold f7_readKin_18 at hg ⊢
      simp only [f7_check, if_true, e1, Option.bind_some]
      rw [g1.check, Option.bind_some] at hg
      exact hg
    · simp only [f12_kinLine, z19, if_true, e2, Option.bind_some, gd, bzz]
  · have z8 : ¬ (9 : Int32) ≤ c.1 t 7 := by rw [v8, show (9 : Int32) = nI 9 from rfl]; exact nI_ge (by omega) (by omega)
    have z19 : ¬ m.1 0 18 = 9 := by rw [v19, show (9 : Int32) = nI 9 from rfl, nI_eq (by omega) (by omega)]; exact q
    obtain ⟨c1, m1, p1, s1, x1, a1, e1, e2, k1, hp1, fc1, fm1⟩ := h.next
    have es : f7_step c = some c1 := by simp only [f7_step, h.2.1.1, if_true, e1, Option.bind_some]
    have ss1 : s1 ≤ p1 := k1.1.2.2.2.2.2.1
    rcases k1.box with ⟨j, c2, m2, p2, s2, x2, a2, hj, -, n1, n2, n3, n4, k2, hp2, es2, -⟩ | ⟨f, c2, m2, r, n1, n2, g1, g2⟩
    · have ss2 : s2 ≤ p2 := k2.1.2.2.2.2.2.1
      have hr2 := k2.2.2.1.1
      have m010 : m2.1 0 10 = nI s2 := k2.1.2.2.2.2.1
      have z6 : (6 + nI j : Int32) = nI (6 + j) := by rw [lit, nI_add]
      have eC : ∀ r9 c3, f7_takeBox c2 = some (r9, c3) → f7_readKin c = if c3.1 3 3 = 0 then ((c3.2.2 3 2).bind fun p13 => gd (decide (kdC p13 = 10)) <| gd (inb (nI j) 6) <| (f0_isKinOf (p13 + 1 + 1 + 2 * ix (nI j)) r9 c3).bind fun r16 => if r16 = 0 then (f7_readKin_69 (nI j) r9 1 c3) else (f7_readKin_69 (nI j) r9 0 c3)) else (f7_readKin_141 c3) := by
        intro r9 c3 e3
        simp only [f7_readKin, f7_readKin_18, hr, Option.bind_some, gd, hkd, if_true, z8, if_false, f7_check, one_ne, es, n1, es2, e3]
      rcases k2.box with ⟨k, c3, m3, p3, s3, x3, a3, hk, -, y1, y2, y3, y4, k3, hp3, es3, mm, emm, emm'⟩ | ⟨f, c3, m3, r, y1, y2, g1, g2⟩
      · have f2 := k2.2.1.1
        have z6' : (6 + nI k : Int32) = nI (6 + k) := by rw [lit, nI_add]
        obtain ⟨-, -, -, b4, b5, -⟩ := w.2.2.2.2.2.2.2.2.1 j hj
        obtain ⟨-, -, -, b4', b5', -⟩ := w.2.2.2.2.2.2.2.2.1 k hk
        have bC := k2.2.2.2.1.2.1 j hj
        have bC' := k2.2.2.2.1.2.1 k hk
        have c9 : c2.1 (t + 1 + 1 + 2 * j) 4 = nI (D 5 j) := bC.2.2.2.1
        have c9' : c2.1 (t + 1 + 1 + 2 * k) 4 = nI (D 5 k) := bC'.2.2.2.1
        have m9 : m3.1 10 (6 + j) = nI (D 5 j) := (k3.2.2.2.2.1.2.1 j hj).2.2.2.2.1
        have m9' : m3.1 10 (6 + k) = nI (D 5 k) := (k3.2.2.2.2.1.2.1 k hk).2.2.2.2.1
        have hb1 := bit1 (x := D 5 j) (p := k) (by omega) (by omega)
        have ejk : (nI j = nI k) = (j = k) := propext (nI_eq (by omega) (by omega))
        have eC : f7_readKin c = if tb (D 5 j) k = true then f7_readKin_69 (nI j) (nI k) 0 c2 else f7_readKin_69 (nI j) (nI k) 1 c2 := by
          rw [eC _ _ y1, if_pos f2]
          simp only [hr2, Option.bind_some, gd, hkd, if_true, inb_t (show j < 6 by omega) (by omega), ix_nI (show j < 2 ^ 31 by omega), f0_isKinOf_eq, c9, hb1]
          by_cases qq : tb (D 5 j) k = true
          · rw [if_pos qq, if_pos qq, if_neg (by decide)]
          · rw [if_neg qq, if_neg qq, if_pos rfl]
        have bad : ∀ f : Nat, frS m0 (wI (wI (wI m3 0 10 (nI s2)) 0 4 (nI f)) 0 5 (nI s2)) := fun f => ((k3.2.2.2.2.2.2.2.2.w (by unfold rdM; omega)).w (by unfold rdM; omega)).w (by unfold rdM; omega)
        have u10 : ∀ f : Int32, (wI (wI m3 0 10 (nI s2)) 0 4 f).1 0 10 = nI s2 := fun f => (wI_o (by omega)).trans wI_s
        rw [eC]
        by_cases jk : j = k
        · subst jk
          obtain ⟨c4, m4, e3, e4, g1, g2⟩ := k2.fail (f := 5) (by omega)
          have e3 : f7_fail 5 c2 = some c4 := e3
          obtain ⟨c', ec, gc⟩ := g1.kin84 (show j < 6 by omega) (show j < 6 by omega) 0
          refine Or.inr ⟨5, s2, c', wI (wI (wI m3 0 10 (nI s2)) 0 4 (nI 5)) 0 5 (nI s2), ?_, ?_, gc, ?_⟩
          · rw [b5, if_neg (by decide), ← ec]
            simp only [f7_readKin_69, f7_check, one_ne, if_false, Option.bind_some, if_true, f7_readKin_84, e3, g1.ne]
            simp only [g1.fail, Option.bind_some]
          · simp only [f12_kinLine, z19, if_false, e2, Option.bind_some, n3, one_ne, n4, lt, y3, y4, m010, if_true, f12_kinLine_73, f12_kinLine_89, f12_wrong, u10, gd, bzz]
            rfl
          · exact ⟨(wI_o (by omega)).trans wI_s, wI_s, bad 5⟩
        · by_cases qq : tb (D 5 j) k = true
          · obtain ⟨c4, m4, e3, e4, g1, g2⟩ := k2.fail (f := 3) (by omega)
            have e3 : f7_fail 3 c2 = some c4 := e3
            obtain ⟨c', ec, gc⟩ := g1.kin84 (show j < 6 by omega) (show k < 6 by omega) 1
            refine Or.inr ⟨3, s2, c', wI (wI (wI m3 0 10 (nI s2)) 0 4 (nI 3)) 0 5 (nI s2), ?_, ?_, gc, ?_⟩
            · rw [if_pos qq, ← ec]
              simp only [f7_readKin_69, f7_check, if_true, e3, Option.bind_some, ejk, jk, if_false]
            · simp only [f12_kinLine, z19, if_false, e2, Option.bind_some, n3, one_ne, n4, lt, y3, y4, m010, ejk, jk, z6, gd, inb_t (show 6 + j < 12 by omega) (by omega), ix_nI (show 6 + j < 2 ^ 31 by omega), isOf_eq, m9, hb1, qq, if_true, f12_kinLine_73, f12_kinLine_89, f12_wrong, u10, bzz]
              rfl
            · exact ⟨(wI_o (by omega)).trans wI_s, wI_s, bad 3⟩
          · have qf : tb (D 5 j) k = false := by revert qq; cases tb (D 5 j) k <;> simp
            obtain ⟨o1, o2, o3⟩ := bor6 (D 5 j) b4 k (by omega)
            obtain ⟨o1', o2', o3'⟩ := bor6 (D 5 k) b4' j (by omega)
            have o4 := o3 j (by omega)
            rw [b5, decide_eq_false jk] at o4
            have o4' := o3' k (by omega)
            rw [b5', decide_eq_false (fun e => jk e.symm)] at o4'
            obtain ⟨X, eX⟩ : ∃ X, X = D 5 j ||| 2 ^ k := ⟨_, rfl⟩
            obtain ⟨Y, eY⟩ : ∃ Y, Y = D 5 k ||| 2 ^ j := ⟨_, rfl⟩
            rw [← eX] at o1 o2 o4
            rw [← eY] at o1' o2' o4'
            have o4 : tb X j = false := o4
            have o4' : tb Y k = false := o4'
            have eD : ∀ a b, ¬ (a = 4 ∨ a = 5 ∨ a = 0 ∧ (b = 2 ∨ b = 23)) → up2 (up2 (up2 D 5 j X) 5 k Y) 0 2 (D 0 2 + 1) a b = D a b := fun a b n => by rw [up2_of (by omega), up2_of (by omega), up2_of (by omega)]
            have eD5 : ∀ i, up2 (up2 (up2 D 5 j X) 5 k Y) 0 2 (D 0 2 + 1) 5 i = if i = k then Y else if i = j then X else D 5 i := fun i => by
              rw [up2_of (by omega)]
              by_cases z : i = k
              · rw [if_pos z, z, up2_s]
              · rw [if_neg z, up2_of (by omega)]
                by_cases z : i = j
                · rw [if_pos z, z, up2_s]
                · rw [if_neg z, up2_of (by omega)]
            have eD4 : ∀ i, up2 (up2 (up2 D 5 j X) 5 k Y) 0 2 (D 0 2 + 1) 4 i = D 4 i := fun i => by rw [up2_of (by omega), up2_of (by omega), up2_of (by omega)]
            have eD23 : up2 (up2 (up2 D 5 j X) 5 k Y) 0 2 (D 0 2 + 1) 0 23 = D 0 23 := by rw [up2_of (by omega), up2_of (by omega), up2_of (by omega)]
            have eD2 : up2 (up2 (up2 D 5 j X) 5 k Y) 0 2 (D 0 2 + 1) 0 2 = D 0 2 + 1 := up2_s
            generalize up2 (up2 (up2 D 5 j X) 5 k Y) 0 2 (D 0 2 + 1) = D' at eD eD4 eD5 eD2 eD23
            have wD : wfD D' := w.upB eD (by rw [eD23]; exact w.2.2.2.1) (by omega) (fun i hi => by
              rw [eD4, eD5]
              obtain ⟨-, -, t1, t2, t3, -⟩ := w.2.2.2.2.2.2.2.2.1 i hi
              refine ⟨t1, ?_⟩
              by_cases z : i = k
              · rw [if_pos z, z]; exact ⟨o2', o4'⟩
              · rw [if_neg z]
                by_cases z : i = j
                · rw [if_pos z, z]; exact ⟨o2, o4⟩
                · rw [if_neg z]; exact ⟨t2, t3⟩)
            obtain ⟨cw, ecw⟩ : ∃ cw, cw = wI (wI (wI c2 (t + 1 + 1 + 2 * j) 4 (nI X)) (t + 1 + 1 + 2 * k) 4 (nI Y)) t 7 (nI (D 0 2 + 1)) := ⟨_, rfl⟩
            have dC' : drC D' t cw := k2.2.2.2.1.upB w0 eD (fun q k' _ _ u1 u2 => by
                have := u2 j (by omega)
                have := u2 k (by omega)
                rw [ecw, wI_o (by omega), wI_o (by omega), wI_o (by omega)]) (by rw [eD23, ecw, wI_o (by omega), wI_o (by omega), wI_o (by omega)]; exact k2.2.2.2.1.1.2.1) (by rw [eD2, ecw, wI_s]) (fun i hi => by
                have bC := k2.2.2.2.1.2.1 i hi
                rw [eD4, eD5, ecw]
                refine ⟨?_, by rw [wI_o (by omega), wI_o (by omega), wI_o (by omega)]; exact bC.2.2.2.2.2.1⟩
                rw [wI_o (by omega)]
                by_cases z : i = k
                · rw [if_pos z, z, wI_s]
                · rw [if_neg z, wI_o (by omega)]
                  by_cases z : i = j
                  · rw [if_pos z, z, wI_s]
                  · rw [if_neg z, wI_o (by omega)]; exact bC.2.2.2.1)
            have kw : RB T E t c0 m0 D' D p2 s2 x2 a2 cw m2 := by
              obtain ⟨q1, ⟨f1, f2, f3, f4⟩, q3, -, dm, -, z, g1, g2⟩ := k2
              rw [ecw] at dC' ⊢
              exact ⟨q1.mv (fun _ => (wI_o (by omega)).trans ((wI_o (by omega)).trans (wI_o (by omega)))) (fun _ => (wI_o (by omega)).trans ((wI_o (by omega)).trans (wI_o (by omega)))) (fun _ _ _ => rfl) (fun _ => rfl) (fun _ => rfl), ⟨((wI_o (by omega)).trans ((wI_o (by omega)).trans (wI_o (by omega)))).trans f1, ((wI_o (by omega)).trans ((wI_o (by omega)).trans (wI_o (by omega)))).trans f2, f3, f4⟩, q3, dC', dm, wD, ((z.w (fun i _ _ => by omega)).w (fun i _ _ => by omega)).w (fun i _ _ => by omega), ((g1.w (by omega)).w (by omega)).w (by omega), g2⟩
            obtain ⟨c5, m5, p5, s5, x5, a5, en, t2, k5, hp5, fc5, fm5⟩ := kw.next
            have em : m5 = mm := Option.some.inj (t2.symm.trans emm)
            subst em
            have fw := kw.2.1.1
            have v18 : m5.1 0 18 = nI (D 0 2) := k5.2.2.2.2.1.1.2.2.1
            obtain ⟨M, eM⟩ : ∃ M, M = wI (wI (wI m3 10 (6 + j) (nI X)) 10 (6 + k) (nI Y)) 0 18 (nI (D 0 2 + 1)) := ⟨_, rfl⟩
            have oM : ∀ q k', ¬ (q = 0 ∧ (k' = 18 ∨ k' = 11)) → ¬ (q = 10 ∧ (k' = 6 + j ∨ k' = 6 + k)) → M.1 q k' = m5.1 q k' := fun q k' n1 n2 => by rw [eM, wI_o (by omega), wI_o (by omega), wI_o (by omega), emm', wI_o (by omega)]
            have dm5 := k5.2.2.2.2.1
            have dM' : drM D' M := by
              have dm3 : drM D m3 := k3.2.2.2.2.1
              refine dm3.upB w0 eD (fun q k n1 n2 => by rw [eM, wI_o (by omega), wI_o (by omega), wI_o (by omega)]) (by rw [eD23, eM, wI_o (by omega), wI_o (by omega), wI_o (by omega)]; exact dm3.1.2.1) (by rw [eD2, eM, wI_s]) (fun i hi => ?_) (fun k hk => ⟨by rw [eM, wI_o (by omega), wI_o (by omega), wI_o (by omega)], by rw [eM, wI_o (by omega), wI_o (by omega), wI_o (by omega)]⟩)
              have bM := dm3.2.1 i hi
              rw [eD4, eD5, eM]
              refine ⟨by rw [wI_o (by omega), wI_o (by omega), wI_o (by omega)]; exact bM.2.2.2.1, ?_⟩
              rw [wI_o (by omega)]
              by_cases z : i = k
              · rw [if_pos z, z, wI_s]
              · rw [if_neg z, wI_o (by omega)]
                by_cases z : i = j
                · rw [if_pos z, z, wI_s]
                · rw [if_neg z, wI_o (by omega)]; exact bM.2.2.2.2.1
            refine Or.inl ⟨D', p5, s5, x5, a5, c5, M, ?_, ?_, ?_, by omega⟩
            · have hs : f7_step cw = some c5 := by simp only [f7_step, fw, if_true, en, Option.bind_some]
              have u4 : (wI c2 (t + 1 + 1 + 2 * j) 4 (nI X)).1 (t + 1 + 1 + 2 * k) 4 = nI (D 5 k) := (wI_o (by omega)).trans c9'
              have u7 : (wI (wI c2 (t + 1 + 1 + 2 * j) 4 (nI X)) (t + 1 + 1 + 2 * k) 4 (nI Y)).1 t 7 = nI (D 0 2) := (wI_o (by omega)).trans ((wI_o (by omega)).trans k2.2.2.2.1.1.2.2.1)
              rw [if_neg qq]
              simp only [f7_readKin_69, f7_readKin_84, f7_check, one_ne, if_false, Option.bind_some, ejk, jk, hr2, gd, hkd, if_true, inb_t (show j < 6 by omega) (by omega), inb_t (show k < 6 by omega) (by omega), ix_nI (show j < 2 ^ 31 by omega), ix_nI (show k < 2 ^ 31 by omega), c9, o1, lt, wI_r, u4, o1', u7, nI_1, ← ecw, f7_readKin_141, hs]
            · have u4 : (wI m3 10 (6 + j) (nI X)).1 10 (6 + k) = nI (D 5 k) := (wI_o (by omega)).trans m9'
              have u7 : (wI (wI m3 10 (6 + j) (nI X)) 10 (6 + k) (nI Y)).1 0 18 = nI (D 0 2) := (wI_o (by omega)).trans ((wI_o (by omega)).trans k3.2.2.2.2.1.1.2.2.1)
              simp only [f12_kinLine, z19, if_false, e2, Option.bind_some, n3, one_ne, n4, lt, y3, y4, ejk, jk, z6, z6', gd, inb_t (show 6 + j < 12 by omega) (by omega), ix_nI (show 6 + j < 2 ^ 31 by omega), inb_t (show 6 + k < 12 by omega) (by omega), ix_nI (show 6 + k < 2 ^ 31 by omega), isOf_eq, m9, hb1, qf, Bool.false_eq_true, if_true, o1, u4, o1', u7, nI_1, ← eM]
            · obtain ⟨q1, ⟨f1, f2, f3, f4⟩, q3, dc, -, wd, z, g1, g2⟩ := k5
              refine ⟨q1.mv (fun _ => rfl) (fun _ => rfl) (fun k _ _ => oM _ _ (by omega) (by omega)) (fun _ => oM _ _ (by omega) (by omega)) (fun _ => oM _ _ (by omega) (by omega)), ⟨f1, f2, (oM _ _ (by omega) (by omega)).trans f3, (oM _ _ (by omega) (by omega)).trans f4⟩, q3, dc, dM', wd, z, g1, ?_⟩
              rw [eM, emm']
              exact (((g2.w (by unfold rdM; omega)).w (by unfold rdM; omega)).w (by unfold rdM; omega)).w (by unfold rdM; omega)
      · refine Or.inr ⟨f, s2, c3, m3, ?_, ?_, g1, g2⟩
        · rw [eC _ _ y1, if_neg g1.ne]
          simp only [f7_readKin_141, g1.step, Option.bind_some]
        · simp only [f12_kinLine, z19, if_false, e2, Option.bind_some, n3, one_ne, n4, lt, y2, if_true]
    · obtain ⟨r', er⟩ := g1.takeBox
      refine Or.inr ⟨f, s1, c2, m2, ?_, ?_, g1, g2⟩
      · simp only [f7_readKin, f7_readKin_18, hr, Option.bind_some, gd, hkd, if_true, z8, if_false, f7_check, one_ne, es, n1, g1.step, er, g1.ne, f7_readKin_141]
      · simp only [f12_kinLine, z19, if_false, e2, Option.bind_some, n2, if_true]
end READ7
