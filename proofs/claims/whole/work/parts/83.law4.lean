/-! Reading a text: brackets, operands of a law. -/
def opk (s : Int32) : Option Int32 := if s = 202788000 then (some 4) else if s = 546786304 then (some 3) else if s = 549512800 then (some 6) else if s = 650632192 then (some 2) else if s = 654910919 then (some 1) else if s = 676516096 then (some 5) else if s = 844154880 then (some 7) else (some (-1))
theorem opk_l : ∀ w, w < 20 → opk (nI (langN w)) = some (if w < 13 then -1 else nI (w - 12)) := by decide +kernel
theorem opk_0 : opk 0 = some (-1) := by decide
theorem nm_l : ∀ w, w < 20 → 13 ≤ w → nI w - 13 = nI (w - 12 - 1) ∧ ¬ nI w < 13 := by decide
theorem nm_s : ∀ w, w < 13 → nI w < 13 := by decide
theorem opk_n {v : Nat} (hv : v < 2 ^ 31) (h : notLang v) : opk (nI v) = some (-1) := by
  have ne : ∀ w, w < 20 → ¬ nI v = nI (langN w) := fun w hw e => h w hw ((nI_eq hv (lang_all w hw).2.2.2.2.2.2.1).mp e)
  have n16 : ¬ nI v = 202788000 := ne 16 (by omega)
  have n15 : ¬ nI v = 546786304 := ne 15 (by omega)
  have n18 : ¬ nI v = 549512800 := ne 18 (by omega)
  have n14 : ¬ nI v = 650632192 := ne 14 (by omega)
  have n13 : ¬ nI v = 654910919 := ne 13 (by omega)
  have n17 : ¬ nI v = 676516096 := ne 17 (by omega)
  have n19 : ¬ nI v = 844154880 := ne 19 (by omega)
  unfold opk
  rw [if_neg n16, if_neg n15, if_neg n18, if_neg n14, if_neg n13, if_neg n17, if_neg n19]
section LAWS6
variable {T : Nat → Nat} {E t : Nat} {c0 m0 : Hp} {D D2 : Sp} {p s x a l f : Nat} {c m : Hp} {st H : List Nat} {wn may : Nat}
theorem opk_eq (tk : tok (c.1 1 5) (c.1 1 6) (m.1 0 8) (m.1 0 9) x a) : (∃ kk, 1 ≤ kk ∧ kk ≤ 7 ∧ f4_operandKind c = some (nI kk) ∧ f12_nameMet m = some (nI (kk - 1))) ∨ (x = 2 ∧ f4_operandKind c = some 0 ∧ f12_nameMet m = some (-1) ∧ m.1 0 8 = 3) ∨ (f4_operandKind c = some (-1) ∧ f12_nameMet m = some (-1) ∧ ¬ m.1 0 8 = 3) := by
  have e35 : ∀ v, f4_operandKind_35 v c = opk v := fun v => rfl
  have nm : ¬ m.1 0 8 = 1 → f12_nameMet m = some (-1) := fun h => by simp only [f12_nameMet, h, if_false, f12_nameMet_27]
  have no : ¬ c.1 1 5 = 2 → ¬ c.1 1 5 = 1 → f4_operandKind c = some (-1) := fun h h2 => by simp only [f4_operandKind, h, h2, if_false, e35, opk_0]
  rcases x with _ | _ | _ | _ | _ | _ | _
  · exact Or.inr (Or.inr ⟨no (by rw [tk.1]; decide) (by rw [tk.1]; decide), nm (by rw [tk.2]; decide), by rw [tk.2]; decide⟩)
  · obtain ⟨t1, t2, t3, t4⟩ := tk
    have t12 : ((1 : Int32) = 2) = False := by decide
    rcases t4 with ⟨w, hw, ew, u1, u2⟩ | ⟨hn, u1, u2⟩
    · have eo : f4_operandKind c = some (if w < 13 then -1 else nI (w - 12)) := by
        simp only [f4_operandKind, t12, if_false, t1, if_true, e35, t2, ew, opk_l w hw]
      by_cases z : w < 13
      · rw [if_pos z] at eo
        refine Or.inr (Or.inr ⟨eo, ?_, by rw [u1]; decide⟩)
        simp only [f12_nameMet, u1, if_true, u2, nm_s w z, f12_nameMet_27]
      · rw [if_neg z] at eo
        obtain ⟨n1, n2⟩ := nm_l w hw (by omega)
        refine Or.inl ⟨w - 12, by omega, by omega, eo, ?_⟩
        simp only [f12_nameMet, u1, if_true, u2, n2, if_false, n1]
    · refine Or.inr (Or.inr ⟨?_, nm (by rw [u1]; decide), by rw [u1]; decide⟩)
      simp only [f4_operandKind, t12, if_false, t1, if_true, e35, t2, opk_n t3 hn]
  · obtain ⟨t1, t2, -⟩ := tk
    exact Or.inr (Or.inl ⟨rfl, by simp only [f4_operandKind, t1, if_true], nm (by rw [t2]; decide), t2⟩)
  · exact Or.inr (Or.inr ⟨no (by rw [tk.1]; decide) (by rw [tk.1]; decide), nm (by rw [tk.2.1]; decide), by rw [tk.2.1]; decide⟩)
  · exact Or.inr (Or.inr ⟨no (by rw [tk.1]; decide) (by rw [tk.1]; decide), nm (by rw [tk.2.1]; decide), by rw [tk.2.1]; decide⟩)
  · have h6 : ¬ m.1 0 8 = 1 ∧ ¬ m.1 0 8 = 3 := by
      rcases tk.2 with u | ⟨u, -⟩ <;> rw [u] <;> decide
    exact Or.inr (Or.inr ⟨no (by rw [tk.1]; decide) (by rw [tk.1]; decide), nm h6.1, h6.2⟩)
  · exact tk.elim
theorem joint_all (h : LW T E t c0 m0 l f D st H 0 may p s x a c m) : JO T E t c0 m0 l f p s x a c (f4_takeJoint c) (f12_signs m) := by
  obtain ⟨m10, mfr, tk⟩ := h.1.m10
  obtain ⟨q1, q2⟩ := sgn_eq tk (b := 22) (by omega) (by omega)
  have q1 : f8_isSign 22 c = _ := q1
  have q2 : f12_isSign 41 m = _ := q2
  have c45 : c.1 4 5 = nI (o21 st) := h.1.2.2.2.1.2.1
  have m42 : m.1 0 42 = nI (o21 st) := h.1.2.2.2.2.1.2.2.1
  have o8 : o21 st ≤ 8 := h.1.2.2.2.2.2.2.1.2.1
  have ec : (nI (o21 st) ≤ 0) = (o21 st = 0) := by
    rw [show (0 : Int32) = nI 0 from rfl]
    exact propext ⟨fun z => Decidable.byContradiction fun n => nI_ge (show 0 < o21 st by omega) (by omega) z, fun z => by rw [z]; decide⟩
  by_cases cs : (x = 3 ∧ a = 22) ∧ 0 < o21 st
  · -- a bracket is shut
    rw [if_pos cs.1] at q1 q2
    obtain ⟨hc, hH, ⟨xb, x512, x46, hB⟩, h44, h43, hw, h14, h15⟩ := h
    have hH : H.length = nbi st + 1 := hH
    obtain ⟨pre, st1, es, hp, hq⟩ := spl 1 st
    have hk := hc.2.2.2.2.2.2.2
    have h21 : ∀ k r, st1 = k :: r → k = 21 := fun k r e => by
      rcases hq k r e with z | z
      · exact z
      · have hm : k ∈ st := by rw [es, e]; exact List.mem_append_right _ (List.mem_cons_self ..)
        obtain ⟨k8, k22⟩ := hk k hm
        by_cases z2 : k = 21
        · exact z2
        · have := (rk_le k k22 k8).2 z2
          omega
    have hcc := hc
    rw [es] at hcc
    have hHH := hH
    rw [es] at hHH
    obtain ⟨D', H', c', m', e1, e2, k', hH', n', y1, y2, y3, y4⟩ := pop_both (R := 0) (R' := 1) (by omega) (by omega) (fun k r e => ⟨Or.inl (h21 k r e), by rw [h21 k r e]; decide⟩) pre D H c m hcc hHH (fun k hk => ⟨(hp k hk).1, Nat.zero_le _, (hp k hk).2⟩)
    have e1 : f4_putAbove 0 c = some c' := e1
    have e2 : f12_bind 1 m = some m' := e2
    rw [← es] at n'
    cases st1 with
    | nil =>
      have : o21 st = 0 := by rw [es, List.append_nil]; exact o21_z pre (fun k hk => (hp k hk).1)
      omega
    | cons k r =>
      have k21 : k = 21 := h21 k r rfl
      subst k21
      have kk := k'
      obtain ⟨-, -, -, ⟨u1, u2, u3, u4⟩, ⟨v1, v2, v3, v4, v5⟩, ⟨w1, w2, w3⟩, ub, uk⟩ := k'
      have hl2 : (21 :: r).length = r.length + 1 := List.length_cons ..
      have no1 : o21 (21 :: r) = o21 r + 1 := by show (if 21 = 21 then 1 else 0) + o21 r = _; rw [if_pos rfl]; omega
      have nbk1 : nbk (21 :: r) = nbk r := by show (if 21 = 21 then 0 else 1) + nbk r = _; rw [if_pos rfl, Nat.zero_add]
      have nbi1 : nbi (21 :: r) = nbi r := by show (if 21 = 21 ∨ 21 = 10 then 0 else 1) + nbi r = _; rw [if_pos (Or.inl rfl), Nat.zero_add]
      rw [hl2] at u1 v1
      rw [no1] at u2 v3
      have b1 := ub.1
      have b2 := ub.2.1
      rw [nbk1] at b1 n'
      rw [no1] at b2
      rw [nbi1] at hH'
      have u2' : (wI c' 4 3 (nI r.length)).1 4 5 = nI (o21 r + 1) := (wI_o (by omega)).trans u2
      have v3' : (wI m' 0 40 (nI r.length)).1 0 42 = nI (o21 r + 1) := (wI_o (by omega)).trans v3
      refine Or.inl ⟨D', r, H', 0, may, wI (wI c' 4 3 (nI r.length)) 4 5 (nI (o21 r)), wI (wI m' 0 40 (nI r.length)) 0 42 (nI (o21 r)), ?_, ?_, ⟨kk.upd (fun q j n1 n2 => (wI_o (by omega)).trans (wI_o (by omega))) rfl (fun q j n1 n2 n3 => (wI_o (by omega)).trans (wI_o (by omega))) rfl ⟨?_, wI_s, ?_, ?_⟩ ⟨?_, ?_, wI_s, ?_, ?_⟩ (w1.2.fr (fun i hi => (wI_o (by omega)).trans (wI_o (by omega)))) (w2.2.fr (fun i hi => (wI_o (by omega)).trans (wI_o (by omega)))) (w3.fr (fun i hi => (wI_o (by omega)).trans (wI_o (by omega)))) ⟨b1, by omega, ub.2.2⟩ (fun k1 hk1 => uk k1 (List.mem_cons_of_mem _ hk1)), hH', ⟨xb, x512, ?_, ?_⟩, ?_, ?_, fun z => ?_, ?_, ?_⟩⟩
      · have g : ¬ c.1 4 5 ≤ 0 := by rw [c45, ec]; omega
        simp only [f4_takeJoint, g, if_false, q1, Option.bind_some, one_ne, e1, lt, u1, nI_sub1, u2']
      · have g : ¬ m.1 0 42 ≤ 0 := by rw [m42, ec]; omega
        simp only [f12_signs, q2, Option.bind_some, one_ne, if_false, g, e2, lt, v1, nI_sub1, v3']
      · rw [wI_o (by omega), wI_s]
      · rw [wI_o (by omega), wI_o (by omega)]; exact u3
      · rw [wI_o (by omega), wI_o (by omega)]; exact u4
      · rw [wI_o (by omega), wI_s]
      · rw [wI_o (by omega), wI_o (by omega)]; exact v2
      · rw [wI_o (by omega), wI_o (by omega)]; exact v4
      · rw [wI_o (by omega), wI_o (by omega)]; exact v5
      · rw [wI_o (by omega), wI_o (by omega), y2]; exact x46
      · rw [es] at hB; exact hB.cls
      · rw [wI_o (by omega), wI_o (by omega), y1, h44, n']
      · rw [wI_o (by omega), wI_o (by omega), y3, h43, n']
      · omega
      · rw [wI_o (by omega), wI_o (by omega), y4 _ _ (by omega)]; exact h14
      · rw [wI_o (by omega), wI_o (by omega), y4 _ _ (by omega)]; exact h15
  · have eC : f4_takeJoint c = f4_takeJoint_46 c := by
      simp only [f4_takeJoint, q1, c45, ec, Option.bind_some]
      by_cases z : o21 st = 0
      · rw [if_pos z]
      · rw [if_neg z, if_neg (fun y => cs ⟨y, by omega⟩), if_pos rfl]
    have eM : f12_signs m = f12_signs_47 m := by
      simp only [f12_signs, q2, m42, ec, Option.bind_some]
      by_cases z : x = 3 ∧ a = 22
      · rw [if_pos z, if_neg (by decide), if_pos (by omega)]
      · rw [if_neg z, if_pos rfl]
    rw [eC, eM]
    rcases jk tk with ⟨k, k8, k21, k10, ej, e47⟩ | ⟨ej, e47⟩
    · exact joint_k h k8 k21 k10 ej e47
    · obtain ⟨m2, w1, w2⟩ := wrong_eq (fc := 1) mfr m10
      have w1 : f12_wrong 1 m = some (0, m2) := w1
      refine Or.inr ⟨1, m2, by omega, ?_, ?_, w2⟩
      · have g : (-1 : Int32) < 11 := by decide
        simp only [f4_takeJoint_46, ej, Option.bind_some, g, if_true, f4_takeJoint_67, f4_takeJoint_68]; rfl
      · rw [e47]
        simp only [f12_signs_147, if_true, w1, Option.bind_some, gd, bzz]
/-- a leaf is put -/
theorem leaf_put {kk v u : Nat} (h : LW T E t c0 m0 l f D st H 1 may p s x a c m) (hq : D 0 3 + nbk st < 64) (hk : kk ≤ 7) (hv : kk = 0 → u = v ∧ v ≤ 9999) (hu : 0 < kk → u = kk - 1) : ∃ D' H' c1 m1, f5_put (t + 14) (nI kk) (nI v) (wI c 4 4 (nI (D 0 3 + nbk st + 1))) = some c1 ∧ f12_grown (nI (mk kk)) (nI u) 0 (wI m 0 43 (nI (D 0 3 + nbk st + 1))) = some m1 ∧ LW T E t c0 m0 l f D' st H' 0 may p s x a (wI c1 4 7 0) (wI m1 0 44 0) := by
  obtain ⟨hc, hH, ⟨xb, x512, x46, hB⟩, h44, h43, hw, h14, h15⟩ := h
  have hcc := hc
  obtain ⟨h1, h2, h3, ⟨c1, c2, c3, c4⟩, ⟨m1, m2, m3, m4, m5⟩, ⟨s1, s2, s3⟩, b, hk'⟩ := hc
  have ht := h1.2.2.1.2
  have hlen := on_len st
  have b2 := b.2.1
  have v5 : (wI c 4 4 (nI (D 0 3 + nbk st + 1))).1 (t + 14) 5 = nI (D 0 3) := (wI_o (by omega)).trans h1.2.2.2.1.1.2.2.2.2.2.2.2.2
  have v20 : (wI m 0 43 (nI (D 0 3 + nbk st + 1))).1 0 20 = nI (D 0 3) := by rw [wI_o (by omega), ← fx_o (D := D) (l := l) (m := m) (q := 0) (k := 20) (by omega) (by omega)]; exact h1.2.2.2.2.1.1.2.2.2.2.1
  have v41 : (wI m 0 43 (nI (D 0 3 + nbk st + 1))).1 0 41 = nI H.length := (wI_o (by omega)).trans m2
  have nle : ∀ st : List Nat, nbi st ≤ nbk st := by
    intro st
    induction st with
    | nil => exact Nat.le_refl _
    | cons a q ih =>
      show (if a = 21 ∨ a = 10 then 0 else 1) + nbi q ≤ (if a = 21 then 0 else 1) + nbk q
      by_cases z : a = 21
      · rw [if_pos (Or.inl z), if_pos z]; omega
      · rw [if_neg z]
        by_cases z2 : a = 21 ∨ a = 10
        · rw [if_pos z2]; omega
        · rw [if_neg z2]; omega
  have nle := nle st
  have g := hcc.grow (c1 := wI c 4 4 (nI (D 0 3 + nbk st + 1))) (m1 := wI m 0 43 (nI (D 0 3 + nbk st + 1))) (k := kk) (v := v) (u := u) (w := 0) (vb := 0) (st' := st) (H1 := H) (wn' := 1) (may' := may) (fun q k n _ => wI_o (by omega)) rfl (fun q k n _ _ => wI_o (by omega)) rfl (fun hb => by unfold bin at hb; omega) ⟨(wI_o (by omega)).trans c1, (wI_o (by omega)).trans c2, (wI_o (by omega)).trans c3, (wI_o (by omega)).trans c4⟩ ⟨(wI_o (by omega)).trans m1, (wI_o (by omega)).trans m3, (wI_o (by omega)).trans m4, (wI_o (by omega)).trans m5⟩ (s1.fr (fun _ _ => wI_o (by omega))) (s2.fr (fun _ _ => wI_o (by omega))) (s3.fr (fun _ _ => wI_o (by omega))) ⟨by omega, b2, by omega, b.2.2.2⟩ hk' (by
      refine Or.inl ?_
      rw [addK_n.2.1, addK_n.2.2.1, addK_n.2.2.2.1]
      exact ⟨hk, hv, hu⟩) (by
      unfold push1
      rw [addK_n.2.1, if_pos hk])
  have e3 : addK D kk v u 0 0 3 = D 0 3 + 1 := addK_n.1
  generalize addK D kk v u 0 = D' at g e3
  refine ⟨D', D 0 3 :: H, _, _, put_eq v5 (by omega), grown_eq v20 v41 (by omega) (by omega), ?_⟩
  obtain ⟨-, -, -, ⟨u1, u2, u3, u4⟩, ⟨y1, y2, y3, y4, y5⟩, ⟨w1, w2, w3⟩, ub, uk⟩ := id g
  refine ⟨g.upd (fun q j n1 n2 => wI_o (by omega)) rfl (fun q j n1 n2 n3 => wI_o (by omega)) rfl ⟨(wI_o (by omega)).trans u1, (wI_o (by omega)).trans u2, wI_s, (wI_o (by omega)).trans u4⟩ ⟨(wI_o (by omega)).trans y1, (wI_o (by omega)).trans y2, (wI_o (by omega)).trans y3, wI_s, (wI_o (by omega)).trans y5⟩ (w1.fr (fun _ _ => wI_o (by omega))) (w2.fr (fun _ _ => wI_o (by omega))) (w3.fr (fun _ _ => wI_o (by omega))) ⟨ub.1, ub.2.1, by omega, ub.2.2.2⟩ uk, ?_, ⟨xb, x512, ?_, hB⟩, ?_, ?_, fun z => by omega, ?_, ?_⟩
  · rw [List.length_cons]; omega
  · rw [wI_o (by omega), cP_o (by omega) (by omega), wI_o (by omega)]; exact x46
  · rw [wI_o (by omega), cP_o (by omega) (by omega), wI_s, e3, show D 0 3 + 1 + nbk st = D 0 3 + nbk st + 1 by omega]
  · rw [wI_o (by omega), mP_o (by omega) (by omega) (by omega), wI_s, e3, show D 0 3 + 1 + nbk st = D 0 3 + nbk st + 1 by omega]
  · rw [wI_o (by omega), mP_o (by omega) (by omega) (by omega), wI_o (by omega)]; exact h14
  · rw [wI_o (by omega), mP_o (by omega) (by omega) (by omega), wI_o (by omega)]; exact h15
end LAWS6
