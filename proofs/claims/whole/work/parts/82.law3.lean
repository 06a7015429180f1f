/-! Reading a text: a joint of a law. -/
section LAWS5
variable {T : Nat → Nat} {E t : Nat} {c0 m0 : Hp} {D D2 : Sp} {p s x a l f : Nat} {c m : Hp} {st H : List Nat} {wn may : Nat}
theorem CO.upd {c' m' : Hp} {st' : List Nat} {wn' may' : Nat} (h : CO T E t c0 m0 l f D st H wn may p s x a c m) (fc : ∀ q k, ¬ q = 4 → ¬ q = 5 → c'.1 q k = c.1 q k) (fr : c'.2.2 = c.2.2) (fm : ∀ q k, ¬ (q = 0 ∧ 40 ≤ k ∧ k ≤ 45) → ¬ q = 20 → ¬ q = 21 → m'.1 q k = m.1 q k) (f2 : m'.2 = m.2) (v1 : c'.1 4 3 = nI st'.length ∧ c'.1 4 5 = nI (o21 st') ∧ c'.1 4 7 = nI wn' ∧ c'.1 4 8 = nI may') (v2 : m'.1 0 40 = nI st'.length ∧ m'.1 0 41 = nI H.length ∧ m'.1 0 42 = nI (o21 st') ∧ m'.1 0 44 = nI wn' ∧ m'.1 0 45 = nI may') (s1 : SK (c'.1 5) id st') (s2 : SK (m'.1 20) wm st') (s3 : SK (m'.1 21) id H) (b : D 0 3 + nbk st' ≤ 64 ∧ o21 st' ≤ 8 ∧ wn' ≤ 1 ∧ may' ≤ 1) (hk : ∀ k, k ∈ st' → 8 ≤ k ∧ k < 22) : CO T E t c0 m0 l f D st' H wn' may' p s x a c' m' := by
  obtain ⟨h1, h2, h3, -, -, -, -, -⟩ := h
  exact ⟨h1.same fc (fun q k _ => by rw [fr]) fm f2, by rw [fr]; exact h2, h3, v1, v2, ⟨s1, s2, s3⟩, b, hk⟩
theorem await_eq {n : Nat} {k : Int32} (h : c.1 4 3 = nI n) (hn : n < 72) : f4_await k c = some (wI (wI c 5 n k) 4 3 (nI (n + 1))) := by
  have g : ¬ (72 : Int32) ≤ nI n := by rw [lit]; exact nI_ge hn (by omega)
  have e : (wI c 5 n k).1 4 3 = nI n := (wI_o (by omega)).trans h
  simp only [f4_await, h, g, if_false, gd, inb_t hn (by omega), ix_nI (show n < 2 ^ 31 by omega), if_true, lt, e, nI_1]
theorem waits_eq {n : Nat} {k : Int32} (h : m.1 0 40 = nI n) (hn : n < 96) : f12_waitsFor k m = some (wI (wI m 20 n k) 0 40 (nI (n + 1))) := by
  have e : (wI m 20 n k).1 0 40 = nI n := (wI_o (by omega)).trans h
  simp only [f12_waitsFor, h, gd, inb_t hn (by omega), ix_nI (show n < 2 ^ 31 by omega), if_true, lt, e, nI_1]
/-- what a joint or an operand comes to -/
def JO (T : Nat → Nat) (E t : Nat) (c0 m0 : Hp) (l f p s x a : Nat) (c : Hp) (rc rm : Option (Int32 × Hp)) : Prop := (∃ D st H wn may c' m', rc = some (0, c') ∧ rm = (f12_token m').bind (fun h => some (1, h)) ∧ LW T E t c0 m0 l f D st H wn may p s x a c' m') ∨ (∃ fc m', (1 ≤ fc ∧ fc ≤ 2) ∧ rc = some (nI fc, c) ∧ rm = some (0, m') ∧ FRf m0 fc s m')
theorem CO.m10 (h : CO T E t c0 m0 l f D st H wn may p s x a c m) : m.1 0 10 = nI s ∧ frS m0 m ∧ tok (c.1 1 5) (c.1 1 6) (m.1 0 8) (m.1 0 9) x a := by
  have k := h.1.1
  refine ⟨?_, fx_fr h.1.2.2.2.2.2.2.2.2, ?_⟩
  · have := k.2.2.2.2.1
    rw [fx_o (by omega) (by omega)] at this; exact this
  · have := k.2.2.2.2.2.2.2.1
    rw [fx_o (by omega) (by omega), fx_o (by omega) (by omega)] at this; exact this
theorem mk_r1 : ∀ k, k < 21 → 8 ≤ k → ¬ nI (mk k) = 0 ∧ f12_rank (nI (mk k)) = some (nI (rk k)) := by decide +kernel
theorem mk_r2 : ∀ k, k < 21 → 8 ≤ k → ((nI (rk k) = 4) ↔ 11 ≤ k ∧ k ≤ 16) := by decide +kernel
theorem mk_r3 : ∀ k, k < 21 → 8 ≤ k → ¬ k = 10 → ((3 : Int32) ≤ nI (rk k) ↔ ¬ (k = 8 ∨ k = 9)) := by decide +kernel
theorem mk_r4 : ∀ k, k < 21 → 8 ≤ k → (rk k = 4 ↔ 11 ≤ k ∧ k ≤ 16) ∧ (5 ≤ rk k ↔ 17 ≤ k) ∧ wm k = mk k := by decide +kernel
theorem joint_k {k : Nat} (h : LW T E t c0 m0 l f D st H 0 may p s x a c m) (k8 : 8 ≤ k) (k21 : k < 21) (k10 : ¬ k = 10) (ej : f4_jointKind c = some (nI k)) (e47 : f12_signs_47 m = f12_signs_147 (nI (mk k)) m) : JO T E t c0 m0 l f p s x a c (f4_takeJoint_46 c) (f12_signs_47 m) := by
  obtain ⟨hc, hH, ⟨xb, x512, x46, hB⟩, h44, h43, hw, h14, h15⟩ := h
  obtain ⟨m10, mfr, tk⟩ := hc.m10
  have hH : H.length = nbi st + 1 := hH
  have hcc := hc
  obtain ⟨h1, h2, h3, ⟨c1, c2, c3, c4⟩, ⟨m1, m2, m3, m4, m5⟩, ⟨s1, s2, s3⟩, b, hk⟩ := hc
  have b1 := b.1
  have b2 := b.2.1
  obtain ⟨mk0, mkr⟩ := mk_r1 k k21 k8
  have r4 := mk_r2 k k21 k8
  have r3 := mk_r3 k k21 k8 k10
  obtain ⟨rk4, rk5, wmk⟩ := mk_r4 k k21 k8
  have r4 : (nI (rk k) = 4) = (11 ≤ k ∧ k ≤ 16) := propext r4
  have rkl := (rk_le k (by omega) k8).1
  have hb1 := bit1 (x := xb) (p := o21 st) (by omega) (by omega)
  have kn1 : ¬ nI k = (-1 : Int32) := m1_ne (by omega)
  have k11 : (nI k < 11) = (k < 11) := by rw [lit]; exact propext ⟨fun z => Decidable.byContradiction fun n => nI_nlt (by omega) (by omega) z, fun z => nI_lt z (by omega)⟩
  have k16 : ((16 : Int32) < nI k) = (16 < k) := by rw [lit]; exact propext ⟨fun z => Decidable.byContradiction fun n => nI_nlt (by omega) (by omega) z, fun z => nI_lt z (by omega)⟩
  have eC : f4_takeJoint_46 c = if (11 ≤ k ∧ k ≤ 16) ∧ ex st = true then some (1, c) else f4_takeJoint_95 (nI k) (if 11 ≤ k ∧ k ≤ 16 then 1 else 0) c := by
    simp only [f4_takeJoint_46, ej, Option.bind_some, k11, k16, f4_takeJoint_67, f4_takeJoint_68, kn1, if_false, if_true, one_ne, x46, c2, hb1]
    rw [hB.1]
    by_cases z1 : k < 11
    · rw [if_pos z1, if_neg (by omega), if_neg (by omega)]
    · rw [if_neg z1]
      by_cases z2 : 16 < k
      · rw [if_pos z2, if_neg (by omega), if_neg (by omega)]
      · rw [if_neg z2]
        by_cases z3 : ex st = true
        · rw [if_pos z3, if_pos ⟨by omega, z3⟩]
        · rw [if_neg z3, if_neg (fun z => z3 z.2), if_pos (by omega)]
  have eM : f12_signs_47 m = f12_signs_175 (nI (mk k)) (nI (if 11 ≤ k ∧ k ≤ 16 then 5 else rk k)) m := by
    rw [e47]
    simp only [f12_signs_147, mk0, if_false, mkr, Option.bind_some, r4]
    by_cases z : 11 ≤ k ∧ k ≤ 16
    · rw [if_pos z, if_pos z]; rfl
    · rw [if_neg z, if_neg z]
  rw [eC, eM]
  by_cases cs : (11 ≤ k ∧ k ≤ 16) ∧ ex st = true
  · -- a second compare
    rw [if_pos cs, if_pos cs.1]
    obtain ⟨pre, st1, es, hp, hq⟩ := spl 5 st
    rw [es] at hcc hH
    obtain ⟨D', H', c', m', e1, e2, k', -⟩ := pop_both (R := 5) (R' := 5) (by omega) (by omega) (fun k r e => ⟨hq k r e, by
      rcases hq k r e with z | z
      · rw [z]; decide
      · exact z⟩) pre D H c m hcc hH (fun k hk => ⟨(hp k hk).1, (hp k hk).2, (hp k hk).2⟩)
    have hx : ex st1 = true := by rw [← ex_app pre st1 (fun k hk => (hp k hk).2), ← es]; exact cs.2
    obtain ⟨m10', mfr', -⟩ := k'.m10
    obtain ⟨m2', w1, w2⟩ := wrong_eq (fc := 1) mfr' m10'
    have w1 : f12_wrong 1 m' = some (0, m2') := w1
    refine Or.inr ⟨1, m2', by omega, rfl, ?_, w2⟩
    cases st1 with
    | nil => cases hx
    | cons k1 r =>
      have hx : (if 5 ≤ rk k1 then ex r else decide (rk k1 = 4)) = true := hx
      have q5 : ¬ 5 ≤ rk k1 := by
        rcases hq k1 r rfl with z | z
        · rw [z]; decide
        · omega
      rw [if_neg q5] at hx
      have q4 : rk k1 = 4 := of_decide_eq_true hx
      obtain ⟨-, -, -, -, ⟨n1, -⟩, ⟨-, n2, -⟩, nb, nk⟩ := k'
      obtain ⟨z8, z22⟩ := nk k1 (List.mem_cons_self ..)
      have hl := on_len (k1 :: r)
      have hl2 : (k1 :: r).length = r.length + 1 := List.length_cons ..
      have nb1 := nb.1
      have nb2 := nb.2.1
      have n1 : m'.1 0 40 = nI (r.length + 1) := by rw [n1, hl2]
      have n2 : m'.1 20 r.length = nI (wm k1) := n2.1
      have g0 : ¬ nI (r.length + 1) ≤ 0 := by rw [show (0 : Int32) = nI 0 from rfl]; exact nI_ge (by omega) (by omega)
      have e2 : f12_bind (nI 5) m = some m' := e2
      have rq : f12_rank (nI (wm k1)) = some 4 := by rw [rkM k1 z22 z8, q4]; rfl
      simp only [f12_signs_175, e2, Option.bind_some, mkr, r4, if_pos cs.1, n1, g0, if_false, nI_sub1, gd, inb_t (show r.length < 96 by omega) (by omega), ix_nI (show r.length < 2 ^ 31 by omega), if_true, n2, rq, w1, bzz]
  · rw [if_neg cs]
    obtain ⟨R', eR⟩ : ∃ R', R' = if 11 ≤ k ∧ k ≤ 16 then 5 else rk k := ⟨_, rfl⟩
    rw [← eR]
    have R'l : R' ≤ 6 ∧ rk k ≤ R' ∧ 1 ≤ R' := by
      rw [eR]
      by_cases z : 11 ≤ k ∧ k ≤ 16
      · rw [if_pos z]; have := rk4.mpr z; omega
      · rw [if_neg z]; have := (rk_le k (by omega) k8).2 (by omega); omega
    obtain ⟨pre, st1, es, hp, hq⟩ := spl R' st
    have hex : (11 ≤ k ∧ k ≤ 16) → ex st1 = false := fun z => by
      have z5 : R' = 5 := by rw [eR, if_pos z]
      rw [← ex_app pre st1 (fun k hk => by have := (hp k hk).2; omega), ← es]
      cases ee : ex st with
      | false => rfl
      | true => exact absurd ⟨z, ee⟩ cs
    have hq4 : (11 ≤ k ∧ k ≤ 16) → ∀ k1 r, st1 = k1 :: r → k1 = 21 ∨ rk k1 < 4 := fun z k1 r e => by
      have z5 : R' = 5 := by rw [eR, if_pos z]
      rcases hq k1 r e with u | u
      · exact Or.inl u
      · refine Or.inr ?_
        have hx := hex z
        rw [e] at hx
        have hx : (if 5 ≤ rk k1 then ex r else decide (rk k1 = 4)) = false := hx
        rw [if_neg (by omega)] at hx
        have := of_decide_eq_false hx
        omega
    -- the class counts first
    obtain ⟨q, eq⟩ : ∃ q, q = D 0 3 + nbk st := ⟨_, rfl⟩
    rw [← eq] at h44 h43 b1
    have hc1 : CO T E t c0 m0 l f D st H 0 may p s x a (wI c 4 4 (nI (q + 1))) m := hcc.upd (fun q k n _ => wI_o (by omega)) rfl (fun _ _ _ _ _ => rfl) rfl ⟨(wI_o (by omega)).trans c1, (wI_o (by omega)).trans c2, (wI_o (by omega)).trans c3, (wI_o (by omega)).trans c4⟩ ⟨m1, m2, m3, m4, m5⟩ (s1.fr (fun _ _ => wI_o (by omega))) s2 s3 b hk
    have stop : ∀ k1 r, st1 = k1 :: r → (k1 = 21 ∨ rk k1 < rk k) ∧ rk k1 < R' := fun k1 r e => by
      have q2 : rk k1 < R' := by
        rcases hq k1 r e with z | z
        · rw [z]; show 0 < R'; omega
        · exact z
      refine ⟨?_, q2⟩
      by_cases z : 11 ≤ k ∧ k ≤ 16
      · have := hq4 z k1 r e
        have := rk4.mpr z
        omega
      · rw [eR, if_neg z] at q2; exact Or.inr q2
    rw [es] at hc1 hH
    obtain ⟨D', H', c5, m5', e1, e2, k', hH', n', y1, y2, y3, y4⟩ := pop_both (R := rk k) (R' := R') (by omega) (by omega) stop pre D H _ m hc1 hH (fun k hk => ⟨(hp k hk).1, by have := (hp k hk).2; omega, (hp k hk).2⟩)
    rw [← es, ← eq] at n'
    have y1 : c5.1 4 4 = nI (q + 1) := y1.trans wI_s
    have y2 : c5.1 4 6 = nI xb := y2.trans ((wI_o (by omega)).trans x46)
    have y3 := y3.trans h43
    have o1 : o21 st1 = o21 st := by rw [es, o21_app, o21_z pre (fun k hk => (hp k hk).1), Nat.zero_add]
    obtain ⟨m10', mfr', -⟩ := k'.m10
    have kk := k'
    obtain ⟨-, -, -, ⟨u1, u2, u3, u4⟩, ⟨v1, v2, v3, v4, v5⟩, ⟨w1, w2, w3⟩, ub, uk⟩ := k'
    have hlen := on_len st1
    have ub1 := ub.1
    have e175 : f12_signs_175 (nI (mk k)) (nI R') m = f12_signs_217 (nI (mk k)) m5' := by
      simp only [f12_signs_175, e2, Option.bind_some, mkr, r4]
      by_cases z : 11 ≤ k ∧ k ≤ 16
      · rw [if_pos z]
        cases hst : st1 with
        | nil =>
          have v1 : m5'.1 0 40 = nI 0 := by rw [v1, hst]; rfl
          have g : (nI 0 : Int32) ≤ 0 := by decide
          simp only [v1, g, if_true]
        | cons k1 r =>
          rw [hst] at w2 v1 hlen ub ub1
          have hl2 : (k1 :: r).length = r.length + 1 := List.length_cons ..
          obtain ⟨z8, z22⟩ := uk k1 (by rw [hst]; exact List.mem_cons_self ..)
          have n1 : m5'.1 0 40 = nI (r.length + 1) := by rw [v1, hl2]
          have n2 : m5'.1 20 r.length = nI (wm k1) := w2.1
          have ub2 := ub.2.1
          have g0 : ¬ nI (r.length + 1) ≤ 0 := by rw [show (0 : Int32) = nI 0 from rfl]; exact nI_ge (by omega) (by omega)
          have q4 : ¬ nI (rk k1) = 4 := by
            rw [lit, nI_eq (by have := (rk_le k1 z22 z8).1; omega) (by omega)]
            rcases hq4 z k1 r hst with u | u
            · rw [u]; decide
            · omega
          simp only [n1, g0, if_false, nI_sub1, gd, inb_t (show r.length < 96 by omega) (by omega), ix_nI (show r.length < 2 ^ 31 by omega), if_true, n2, rkM k1 z22 z8, Option.bind_some, q4]
      · rw [if_neg z]
    rw [e175]
    by_cases q64 : q = 64
    · obtain ⟨m2', z1, z2⟩ := wrong_eq (fc := 2) mfr' m10'
      have z1 : f12_wrong 2 m5' = some (0, m2') := z1
      have g1 : c.1 4 4 = 64 := by rw [h44, q64]; rfl
      have g2 : m5'.1 0 43 = 64 := by rw [y3, q64]; rfl
      refine Or.inr ⟨2, m2', by omega, ?_, ?_, z2⟩
      · simp only [f4_takeJoint_95, g1, if_true]; rfl
      · simp only [f12_signs_217, f12_isCounted, g2, if_true, z1, Option.bind_some, gd, bzz]
    · have g1 : ¬ nI q = 64 := by rw [lit, nI_eq (by omega) (by omega)]; exact q64
      have hst : st1.length < 72 := by have := ub.2.1; omega
      have nbk1 : nbk (k :: st1) = 1 + nbk st1 := by show (if k = 21 then 0 else 1) + nbk st1 = _; rw [if_neg (by omega)]
      have nbi1 : nbi (k :: st1) = 1 + nbi st1 := by show (if k = 21 ∨ k = 10 then 0 else 1) + nbi st1 = _; rw [if_neg (by omega)]
      have no1 : o21 (k :: st1) = o21 st1 := by show (if k = 21 then 1 else 0) + o21 st1 = _; rw [if_neg (by omega), Nat.zero_add]
      have hl2 : (k :: st1).length = st1.length + 1 := List.length_cons ..
      obtain ⟨mq, emq⟩ : ∃ mq, mq = if k = 8 ∨ k = 9 then 1 else 0 := ⟨_, rfl⟩
      have mq1 : mq ≤ 1 := by
        rw [emq]
        by_cases z : k = 8 ∨ k = 9
        · rw [if_pos z]; omega
        · rw [if_neg z]; omega
      obtain ⟨c6, ec6⟩ : ∃ c6, c6 = wI (wI (wI (wI c5 5 st1.length (nI k)) 4 3 (nI (st1.length + 1))) 4 7 1) 4 8 (nI mq) := ⟨_, rfl⟩
      obtain ⟨m7, em7⟩ : ∃ m7, m7 = wI (wI (wI (wI (wI m5' 0 43 (nI (q + 1))) 20 st1.length (nI (mk k))) 0 40 (nI (st1.length + 1))) 0 44 1) 0 45 (nI mq) := ⟨_, rfl⟩
      have fin : ∀ (c7 : Hp) (xb' : Nat), (∀ q j, ¬ (q = 4 ∧ j = 6) → c7.1 q j = c6.1 q j) → c7.2.2 = c6.2.2 → xb' < 512 → c7.1 4 6 = nI xb' → BT (tb xb') (k :: st1) → LW T E t c0 m0 l f D' (k :: st1) H' 1 mq p s x a c7 m7 := by
        intro c7 xb' f7 f7r x1 x2 x3
        have cc : ∀ q j, ¬ (q = 4 ∧ (j = 3 ∨ j = 6 ∨ j = 7 ∨ j = 8)) → ¬ (q = 5 ∧ j = st1.length) → c7.1 q j = c5.1 q j := fun q j n1 n2 => by
          rw [f7 q j (by omega), ec6, wI_o (by omega), wI_o (by omega), wI_o (by omega), wI_o (by omega)]
        have mm : ∀ q j, ¬ (q = 0 ∧ (j = 43 ∨ j = 40 ∨ j = 44 ∨ j = 45)) → ¬ (q = 20 ∧ j = st1.length) → m7.1 q j = m5'.1 q j := fun q j n1 n2 => by
          rw [em7, wI_o (by omega), wI_o (by omega), wI_o (by omega), wI_o (by omega), wI_o (by omega)]
        refine ⟨kk.upd (fun q j n1 n2 => cc q j (by omega) (by omega)) (by rw [f7r, ec6]; rfl) (fun q j n1 n2 n3 => mm q j (by omega) (by omega)) (by rw [em7]; rfl) ⟨?_, ?_, ?_, ?_⟩ ⟨?_, ?_, ?_, ?_, ?_⟩ ⟨?_, w1.fr (fun i hi => cc _ _ (by omega) (by omega))⟩ ⟨?_, w2.fr (fun i hi => mm _ _ (by omega) (by omega))⟩ (w3.fr (fun i hi => mm _ _ (by omega) (by omega))) ⟨by omega, by rw [no1]; exact ub.2.1, by omega, mq1⟩ (fun k1 hk1 => ?_), ?_, ⟨xb', x1, x2, x3⟩, ?_, ?_, fun _ hm => ?_, ?_, ?_⟩
        · rw [f7 _ _ (by omega), ec6, hl2, wI_o (by omega), wI_o (by omega), wI_s]
        · rw [cc _ _ (by omega) (by omega), no1]; exact u2
        · rw [f7 _ _ (by omega), ec6, wI_o (by omega), wI_s]; rfl
        · rw [f7 _ _ (by omega), ec6, wI_s]
        · rw [em7, hl2, wI_o (by omega), wI_o (by omega), wI_s]
        · rw [mm _ _ (by omega) (by omega)]; exact v2
        · rw [mm _ _ (by omega) (by omega), no1]; exact v3
        · rw [em7, wI_o (by omega), wI_s]; rfl
        · rw [em7, wI_s]
        · rw [f7 _ _ (by omega), ec6, wI_o (by omega), wI_o (by omega), wI_o (by omega), wI_s]; rfl
        · rw [em7, wI_o (by omega), wI_o (by omega), wI_o (by omega), wI_s, wmk]
        · rcases List.mem_cons.mp hk1 with z | z
          · rw [z]; omega
          · exact uk k1 z
        · rw [nbi1]; omega
        · rw [cc _ _ (by omega) (by omega), y1, nbk1, show D' 0 3 + (1 + nbk st1) = q + 1 by omega]
        · rw [em7, wI_o (by omega), wI_o (by omega), wI_o (by omega), wI_o (by omega), wI_s, nbk1, show D' 0 3 + (1 + nbk st1) = q + 1 by omega]
        · show (if 5 ≤ rk k then ex st1 else decide (rk k = 4)) = false
          have hm : k = 8 ∨ k = 9 := by
            by_cases z : k = 8 ∨ k = 9
            · exact z
            · rw [emq, if_neg z] at hm; omega
          rcases hm with rfl | rfl <;> rfl
        · rw [mm _ _ (by omega) (by omega), y4 _ _ (by omega)]; exact h14
        · rw [mm _ _ (by omega) (by omega), y4 _ _ (by omega)]; exact h15
      have eRM : f12_signs_217 (nI (mk k)) m5' = (f12_token m7).bind (fun h => some (1, h)) := by
        have v1' : (wI m5' 0 43 (nI (q + 1))).1 0 40 = nI st1.length := (wI_o (by omega)).trans v1
        have r3 : ((3 : Int32) ≤ nI (rk k)) = ¬ (k = 8 ∨ k = 9) := propext r3
        simp only [f12_signs_217, f12_isCounted, y3, g1, if_false, lt, nI_1, Option.bind_some, one_ne, waits_eq v1' (by omega), mkr, r3, f12_signs_250]
        rw [em7, emq]
        by_cases z : k = 8 ∨ k = 9
        · rw [if_neg (fun n => n z), if_pos z]
          simp only [gd, show bz 1 = true from by decide, if_true]; rfl
        · rw [if_pos z, if_neg z]
          simp only [gd, bzz, if_true]; rfl
      have e95 : ∀ X : Int32, f4_takeJoint_95 (nI k) X c = f4_takeJoint_152 X (nI mq) (wI (wI (wI c5 5 st1.length (nI k)) 4 3 (nI (st1.length + 1))) 4 7 1) := by
        intro X
        have k9 : (nI k = 9) = (k = 9) := by rw [lit]; exact propext (nI_eq (by omega) (by omega))
        have k8' : (nI k = 8) = (k = 8) := by rw [lit]; exact propext (nI_eq (by omega) (by omega))
        simp only [f4_takeJoint_95, h44, g1, if_false, lt, nI_1, rkC k k21 k8, Option.bind_some, e1, await_eq u1 hst, k9, k8', f4_takeJoint_147]
        rw [emq]
        by_cases z9 : k = 9
        · rw [if_pos z9, if_pos (Or.inr z9)]; rfl
        · rw [if_neg z9]
          by_cases z8 : k = 8
          · rw [if_pos z8, if_pos (Or.inl z8)]; rfl
          · rw [if_neg z8, if_neg (by omega)]; rfl
      have u45 : c6.1 4 5 = nI (o21 st) := by rw [ec6, wI_o (by omega), wI_o (by omega), wI_o (by omega), wI_o (by omega), u2, o1]
      have u46 : c6.1 4 6 = nI xb := by rw [ec6, wI_o (by omega), wI_o (by omega), wI_o (by omega), wI_o (by omega), y2]
      have u48 : c6.1 4 8 = nI mq := by rw [ec6, wI_s]
      have bzq : bz (nI mq) = true := by
        have : mq = 0 ∨ mq = 1 := by omega
        rcases this with z | z <;> rw [z] <;> decide
      have hps : ∀ k, k ∈ pre → ¬ k = 21 := fun k hk => (hp k hk).1
      have hB' : BT (tb xb) (pre ++ st1) := by rw [← es]; exact hB
      rw [e95, eRM]
      by_cases z : 11 ≤ k ∧ k ≤ 16
      · obtain ⟨t1, t2⟩ := bitS xb x512 (o21 st) (by omega)
        refine Or.inl ⟨D', k :: st1, H', 1, mq, wI c6 4 6 (nI (xb ||| 2 ^ o21 st)), m7, ?_, rfl, fin _ _ (fun q j n => wI_o n) rfl t2 wI_s (hB'.jnt hps (by omega) (fun j hj => ?_) ?_)⟩
        · rw [if_pos z]
          simp only [f4_takeJoint_152, gd, bzq, if_true, lt, ← ec6, one_ne, if_false, u46, u45, t1]
        · rw [o1] at hj
          rw [(bitT xb x512 (o21 st) (by omega) j (by omega)).1, decide_eq_false (by omega)]; rfl
        · rw [o1, (bitT xb x512 (o21 st) (by omega) (o21 st) (by omega)).1, decide_eq_true rfl]
          show _ = if 5 ≤ rk k then ex st1 else decide (rk k = 4)
          rw [if_neg (by have := rk4.mpr z; omega), decide_eq_true (rk4.mpr z)]; rfl
      · rw [if_neg z]
        by_cases z2 : k = 8 ∨ k = 9
        · obtain ⟨t1, t2⟩ := bitZ xb x512 (o21 st) (by omega)
          have em : mq = 1 := by rw [emq, if_pos z2]
          have u48' : ¬ c6.1 4 8 = 0 := by rw [u48, em]; decide
          refine Or.inl ⟨D', k :: st1, H', 1, mq, wI c6 4 6 (nI ((xb ||| 2 ^ o21 st) - 2 ^ o21 st)), m7, ?_, rfl, fin _ _ (fun q j n => wI_o n) rfl t2 wI_s (hB'.jnt hps (by omega) (fun j hj => ?_) ?_)⟩
          · simp only [f4_takeJoint_152, gd, bzq, if_true, lt, ← ec6, u48', if_false, u46, u45, t1]
          · rw [o1] at hj
            rw [(bitT xb x512 (o21 st) (by omega) j (by omega)).2, decide_eq_false (by omega)]; rfl
          · rw [o1, (bitT xb x512 (o21 st) (by omega) (o21 st) (by omega)).2, decide_eq_true rfl]
            rcases z2 with rfl | rfl <;> rfl
        · have em : mq = 0 := by rw [emq, if_neg z2]
          have u48' : c6.1 4 8 = 0 := by rw [u48, em]; rfl
          refine Or.inl ⟨D', k :: st1, H', 1, mq, c6, m7, ?_, rfl, fin _ _ (fun q j n => rfl) rfl x512 u46 (hB'.jnt hps (by omega) (fun j hj => rfl) ?_)⟩
          · simp only [f4_takeJoint_152, gd, bzq, if_true, lt, ← ec6, u48']
          · have z17 : 5 ≤ rk k := rk5.mpr (by omega)
            have zR : R' = rk k := by rw [eR, if_neg z]
            rw [o1, hB.1, es, ex_app pre st1 (fun k1 hk1 => by have := (hp k1 hk1).2; omega)]
            show _ = if 5 ≤ rk k then ex st1 else decide (rk k = 4)
            rw [if_pos z17]
end LAWS5
