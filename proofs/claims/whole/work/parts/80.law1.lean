/-! Reading a text: all that binds more is put; a law under way. -/
section LAWS3
variable {T : Nat → Nat} {E t : Nat} {c0 m0 : Hp} {D D2 : Sp} {p s x a l f : Nat} {c m : Hp} {st H : List Nat} {wn may : Nat}
theorem pop_both {R R' : Nat} {st1 : List Nat} (hR : R < 2 ^ 31) (hR' : R' < 2 ^ 31) (stop : ∀ k r, st1 = k :: r → (k = 21 ∨ rk k < R) ∧ rk k < R') : ∀ (pre : List Nat) (D : Sp) (H : List Nat) (c m : Hp), CO T E t c0 m0 l f D (pre ++ st1) H wn may p s x a c m → H.length = nbi (pre ++ st1) + 1 → (∀ k, k ∈ pre → ¬ k = 21 ∧ R ≤ rk k ∧ R' ≤ rk k) → ∃ D' H' c' m', f4_putAbove (nI R) c = some c' ∧ f12_bind (nI R') m = some m' ∧ CO T E t c0 m0 l f D' st1 H' wn may p s x a c' m' ∧ H'.length = nbi st1 + 1 ∧ D' 0 3 + nbk st1 = D 0 3 + nbk (pre ++ st1) ∧ c'.1 4 4 = c.1 4 4 ∧ c'.1 4 6 = c.1 4 6 ∧ m'.1 0 43 = m.1 0 43 ∧ ∀ q j, q = 14 ∨ q = 15 → m'.1 q j = m.1 q j
  | [], D, H, c, m, h, hH, _ => by
    refine ⟨D, H, c, m, ?_, ?_, h, hH, rfl, rfl, rfl, rfl, fun _ _ _ => rfl⟩
    · unfold f4_putAbove f4_putAbove_0
      refine lp_inr (o := some c) ?_
      obtain ⟨-, -, -, ⟨c1, -, -, -⟩, -, ⟨s1, -, -⟩, b, hk⟩ := h
      have hlen := on_len st1
      cases st1 with
      | nil =>
        have c1 : c.1 4 3 = nI 0 := c1
        have g : (nI 0 : Int32) ≤ 0 := by decide
        simp only [f4_putAbove_0_s, c1, g, if_true, Option.map_some]
      | cons k r =>
        obtain ⟨q1, -⟩ := stop k r rfl
        obtain ⟨k8, k22⟩ := hk k (List.mem_cons_self ..)
        have c1 : c.1 4 3 = nI (r.length + 1) := by rw [c1]; rfl
        have b1 : D 0 3 + nbk (k :: r) ≤ 64 := b.1
        have b2 : o21 (k :: r) ≤ 8 := b.2.1
        have hlen : o21 (k :: r) + nbk (k :: r) = r.length + 1 := hlen
        have t5 : c.1 5 r.length = nI k := s1.1
        have g0 : ¬ nI (r.length + 1) ≤ 0 := by rw [show (0 : Int32) = nI 0 from rfl]; exact nI_ge (by omega) (by omega)
        by_cases z : k = 21
        · have z' : nI k = 21 := by rw [z]; rfl
          simp only [f4_putAbove_0_s, c1, g0, if_false, nI_sub1, gd, inb_t (show r.length < 72 by omega) (by omega), ix_nI (show r.length < 2 ^ 31 by omega), if_true, t5, z', Option.map_some]
        · have z' : ¬ nI k = 21 := by rw [show (21 : Int32) = nI 21 from rfl, nI_eq (by omega) (by omega)]; exact z
          have q2 : nI (rk k) < nI R := nI_lt (by omega) hR
          simp only [f4_putAbove_0_s, c1, g0, if_false, nI_sub1, gd, inb_t (show r.length < 72 by omega) (by omega), ix_nI (show r.length < 2 ^ 31 by omega), if_true, t5, z', rkC k (by omega) k8, Option.bind_some, q2, Option.map_some]
    · unfold f12_bind f12_bind_0
      refine lp_inr (o := some m) ?_
      obtain ⟨-, -, -, -, ⟨m1, -⟩, ⟨-, s1, -⟩, b, hk⟩ := h
      have hlen := on_len st1
      cases st1 with
      | nil =>
        have m1 : m.1 0 40 = nI 0 := m1
        have g : (nI 0 : Int32) ≤ 0 := by decide
        simp only [f12_bind_0_s, m1, g, if_true, Option.map_some]
      | cons k r =>
        obtain ⟨-, q1⟩ := stop k r rfl
        obtain ⟨k8, k22⟩ := hk k (List.mem_cons_self ..)
        have m1 : m.1 0 40 = nI (r.length + 1) := by rw [m1]; rfl
        have b1 : D 0 3 + nbk (k :: r) ≤ 64 := b.1
        have b2 : o21 (k :: r) ≤ 8 := b.2.1
        have hlen : o21 (k :: r) + nbk (k :: r) = r.length + 1 := hlen
        have t5 : m.1 20 r.length = nI (wm k) := s1.1
        have g0 : ¬ nI (r.length + 1) ≤ 0 := by rw [show (0 : Int32) = nI 0 from rfl]; exact nI_ge (by omega) (by omega)
        have q2 : nI (rk k) < nI R' := nI_lt q1 hR'
        simp only [f12_bind_0_s, m1, g0, if_false, nI_sub1, gd, inb_t (show r.length < 96 by omega) (by omega), ix_nI (show r.length < 2 ^ 31 by omega), if_true, t5, rkM k k22 k8, Option.bind_some, q2, Option.map_some]
  | k :: pre, D, H, c, m, h, hH, hp => by
    obtain ⟨q1, q2, q3⟩ := hp k (List.mem_cons_self ..)
    obtain ⟨D1, H1, c1, m1, e1, e2, k1, hH1, n1, y1, y2, y3, y4⟩ := one_pop (r := pre ++ st1) h hH q1 q2 q3
    obtain ⟨D', H', c', m', e1', e2', k', hH', n', z1, z2, z3, z4⟩ := pop_both hR hR' stop pre D1 H1 c1 m1 k1 hH1 (fun k hk => hp k (List.mem_cons_of_mem _ hk))
    refine ⟨D', H', c', m', ?_, ?_, k', hH', n'.trans n1, z1.trans y1, z2.trans y2, z3.trans y3, fun q j hq => (z4 q j hq).trans (y4 q j hq)⟩
    · unfold f4_putAbove f4_putAbove_0 at e1' ⊢
      rw [lp_inl e1]; exact e1'
    · unfold f12_bind f12_bind_0 at e2' ⊢
      rw [lp_inl e2]; exact e2'
theorem spl (R : Nat) : ∀ st : List Nat, ∃ pre st1, st = pre ++ st1 ∧ (∀ k, k ∈ pre → ¬ k = 21 ∧ R ≤ rk k) ∧ ∀ k r, st1 = k :: r → k = 21 ∨ rk k < R
  | [] => ⟨[], [], rfl, fun k h => (by cases h), fun k r h => (by cases h)⟩
  | k :: r => by
    by_cases q : ¬ k = 21 ∧ R ≤ rk k
    · obtain ⟨pre, st1, e, h1, h2⟩ := spl R r
      refine ⟨k :: pre, st1, by rw [e]; rfl, fun k' hk => ?_, h2⟩
      rcases List.mem_cons.mp hk with z | z
      · rw [z]; exact q
      · exact h1 k' z
    · refine ⟨[], k :: r, rfl, fun k h => (by cases h), fun k' r' h => ?_⟩
      have := (List.cons.inj h).1
      subst this
      omega
/-- a compare stands open -/
def ex : List Nat → Bool
  | [] => false
  | a :: r => if 5 ≤ rk a then ex r else decide (rk a = 4)
theorem ex_app : ∀ (pre st1 : List Nat), (∀ k, k ∈ pre → 5 ≤ rk k) → ex (pre ++ st1) = ex st1
  | [], _, _ => rfl
  | k :: pre, st1, h => by
    show (if 5 ≤ rk k then ex (pre ++ st1) else decide (rk k = 4)) = _
    rw [if_pos (h k (List.mem_cons_self ..))]
    exact ex_app pre st1 (fun k hk => h k (List.mem_cons_of_mem _ hk))
theorem o21_app : ∀ (u v : List Nat), o21 (u ++ v) = o21 u + o21 v
  | [], v => (Nat.zero_add _).symm
  | a :: u, v => by
    show (if a = 21 then 1 else 0) + o21 (u ++ v) = (if a = 21 then 1 else 0) + o21 u + o21 v
    rw [o21_app u v, Nat.add_assoc]
theorem o21_z : ∀ (u : List Nat), (∀ k, k ∈ u → ¬ k = 21) → o21 u = 0
  | [], _ => rfl
  | a :: u, h => by
    show (if a = 21 then 1 else 0) + o21 u = 0
    rw [if_neg (h a (List.mem_cons_self ..)), o21_z u (fun k hk => h k (List.mem_cons_of_mem _ hk))]
/-- at each level of brackets: whether a compare stands open there -/
def BT (b : Nat → Bool) (st : List Nat) : Prop := b (o21 st) = ex st ∧ ∀ pre w, st = pre ++ 21 :: w → b (o21 w) = ex w
theorem BT.nil {b : Nat → Bool} (h : b 0 = false) : BT b [] := ⟨h, fun pre w e => by cases pre <;> cases e⟩
theorem BT.opn {b b' : Nat → Bool} {st : List Nat} (h : BT b st) (e : ∀ j, j ≤ o21 st → b' j = b j) (e2 : b' (o21 st + 1) = false) : BT b' (21 :: st) := by
  refine ⟨?_, fun pre w hw => ?_⟩
  · have : o21 (21 :: st) = o21 st + 1 := by show (if 21 = 21 then 1 else 0) + o21 st = _; rw [if_pos rfl]; omega
    rw [this, e2]; rfl
  · cases pre with
    | nil =>
      have : st = w := (List.cons.inj hw).2
      rw [← this, e _ (Nat.le_refl _)]; exact h.1
    | cons a pre =>
      have : st = pre ++ 21 :: w := (List.cons.inj hw).2
      rw [e _ (by rw [this, o21_app]; show o21 w ≤ o21 pre + ((if 21 = 21 then 1 else 0) + o21 w); omega)]
      exact h.2 pre w this
theorem BT.cls {b : Nat → Bool} {pre w : List Nat} (h : BT b (pre ++ 21 :: w)) : BT b w := ⟨h.2 pre w rfl, fun pre' w' e => h.2 (pre ++ 21 :: pre') w' (by rw [e, List.append_assoc, List.cons_append])⟩
theorem BT.jnt {b b' : Nat → Bool} {k : Nat} {pre st1 : List Nat} (h : BT b (pre ++ st1)) (hp : ∀ k, k ∈ pre → ¬ k = 21) (hk : ¬ k = 21) (e : ∀ j, j < o21 st1 → b' j = b j) (e2 : b' (o21 st1) = ex (k :: st1)) : BT b' (k :: st1) := by
  refine ⟨?_, fun p' w hw => ?_⟩
  · have : o21 (k :: st1) = o21 st1 := by show (if k = 21 then 1 else 0) + o21 st1 = _; rw [if_neg hk]; omega
    rw [this, e2]
  · cases p' with
    | nil => exact absurd (List.cons.inj hw).1 hk
    | cons a p' =>
      have : st1 = p' ++ 21 :: w := (List.cons.inj hw).2
      rw [e _ (by rw [this, o21_app]; show o21 w < o21 p' + ((if 21 = 21 then 1 else 0) + o21 w); rw [if_pos rfl]; omega)]
      exact h.2 (pre ++ p') w (by rw [this, List.append_assoc])
theorem bitS : ∀ x, x < 512 → ∀ o, o < 9 → nI x ||| ((1 : Int32) <<< (nI o &&& 31)) = nI (x ||| 2 ^ o) ∧ x ||| 2 ^ o < 512 := by decide +kernel
theorem bitZ : ∀ x, x < 512 → ∀ o, o < 9 → nI x &&& (((1 : Int32) <<< (nI o &&& 31)) ^^^ (-1)) = nI ((x ||| 2 ^ o) - 2 ^ o) ∧ (x ||| 2 ^ o) - 2 ^ o < 512 := by decide +kernel
theorem bitT : ∀ x, x < 512 → ∀ o, o < 9 → ∀ j, j < 9 → tb (x ||| 2 ^ o) j = (decide (j = o) || tb x j) ∧ tb ((x ||| 2 ^ o) - 2 ^ o) j = (!decide (j = o) && tb x j) := by decide +kernel
/-- a law under way -/
def LW (T : Nat → Nat) (E t : Nat) (c0 m0 : Hp) (l f : Nat) (D : Sp) (st H : List Nat) (wn may p s x a : Nat) (c m : Hp) : Prop := CO T E t c0 m0 l f D st H wn may p s x a c m ∧ H.length + wn = nbi st + 1 ∧ (∃ xb, xb < 512 ∧ c.1 4 6 = nI xb ∧ BT (tb xb) st) ∧ c.1 4 4 = nI (D 0 3 + nbk st) ∧ m.1 0 43 = nI (D 0 3 + nbk st) ∧ (wn = 1 → may = 1 → ex st = false) ∧ m.1 14 (3 + l) = 1 ∧ m.1 15 (3 + l) = nI f
theorem fx_fr {m : Hp} (h : frS m0 (fx D l m)) : frS m0 m := ⟨fun q k n => by
  rw [← fx_o (D := D) (l := l) (m := m) (fun e => n (by unfold rdM; omega)) (fun e => n (by unfold rdM; omega))]; exact h.1 q k n, h.2⟩
theorem wrong_eq {m : Hp} {fc : Nat} (h : frS m0 m) (h10 : m.1 0 10 = nI s) : ∃ m', f12_wrong (nI fc) m = some (0, m') ∧ FRf m0 fc s m' := by
  have v2 : (wI m 0 4 (nI fc)).1 0 10 = nI s := (wI_o (by omega)).trans h10
  refine ⟨wI (wI m 0 4 (nI fc)) 0 5 (nI s), ?_, (wI_o (by omega)).trans wI_s, wI_s, (h.w (by unfold rdM; omega)).w (by unfold rdM; omega)⟩
  simp only [f12_wrong, lt, v2]
theorem CO.next (h : CO T E t c0 m0 l f D st H wn may p s x a c m) : ∃ c' m' p' s' x' a', f8_next c = some c' ∧ f12_token m = some m' ∧ CO T E t c0 m0 l f D st H wn may p' s' x' a' c' m' ∧ p ≤ s' ∧ frT c c' ∧ frU m m' := by
  obtain ⟨h0, h2, h3, ⟨c1, c2, c3, c4⟩, ⟨m1, m2, m3, m4, m5⟩, ⟨s1, s2, s3⟩, b, hk⟩ := h
  obtain ⟨h1, ⟨f1, f2, f3, f4⟩, ⟨r1, r2⟩, d1, d2, w, z, g1, g2⟩ := h0
  have h1 : tks T E p s x a c m := h1.mv (fun _ => rfl) (fun _ => rfl) (fun k _ _ => (fx_o (by omega) (by omega)).symm) (fun k => (fx_o (by omega) (by omega)).symm) (fun k => (fx_o (by omega) (by omega)).symm)
  obtain ⟨c', m', p', s', x', a', e1, e2, k, hp, fc, fm⟩ := next_both h1.1 h1.2.1 h1.2.2.1 h1.2.2.2.2.2.2.1
  have fm' : ∀ q k, ¬ (q = 0 ∧ 7 ≤ k ∧ k ≤ 10) → (fx D l m').1 q k = (fx D l m).1 q k := fun q k n => by
    by_cases z1 : q = 0 ∧ k = 43
    · rw [z1.1, z1.2, fx_1.1, fx_1.1]
    · by_cases z2 : q = 14 ∧ k = 3 + l
      · rw [z2.1, z2.2, fx_1.2, fx_1.2]
      · rw [fx_o z1 z2, fx_o z1 z2, fm.1 q k (by omega)]
  refine ⟨c', m', p', s', x', a', e1, e2, ⟨⟨?_, ⟨(fc.1 _ _ (by omega)).trans f1, (fc.1 _ _ (by omega)).trans f2, (fm' _ _ (by omega)).trans f3, (fm' _ _ (by omega)).trans f4⟩, ⟨by rw [fc.2]; exact r1, r2⟩, d1.fr (fun q k n => fc.1 _ _ (by omega)), d2.fr (fun q k n => fm' _ _ (by omega)), w, z.fr (fun q k a b _ => fc.1 _ _ (by omega)), g1.tr fc.r, ?_⟩, by rw [fc.2]; exact h2, h3, ⟨(fc.1 _ _ (by omega)).trans c1, (fc.1 _ _ (by omega)).trans c2, (fc.1 _ _ (by omega)).trans c3, (fc.1 _ _ (by omega)).trans c4⟩, ⟨(fm.1 _ _ (by omega)).trans m1, (fm.1 _ _ (by omega)).trans m2, (fm.1 _ _ (by omega)).trans m3, (fm.1 _ _ (by omega)).trans m4, (fm.1 _ _ (by omega)).trans m5⟩, ⟨s1.fr (fun i _ => fc.1 _ _ (by omega)), s2.fr (fun i _ => fm.1 _ _ (by omega)), s3.fr (fun i _ => fm.1 _ _ (by omega))⟩, b, hk⟩, hp, fc, fm⟩
  · exact k.mv (fun _ => rfl) (fun _ => rfl) (fun k _ _ => fx_o (by omega) (by omega)) (fun k => fx_o (by omega) (by omega)) (fun k => fx_o (by omega) (by omega))
  · refine g2.tr ⟨fun q k n => fm' q k (fun e => n (by unfold rdM; omega)), ?_⟩
    show m'.2 = m.2
    exact fm.2
theorem LW.next (h : LW T E t c0 m0 l f D st H wn may p s x a c m) : ∃ c' m' p' s' x' a', f8_next c = some c' ∧ f12_token m = some m' ∧ LW T E t c0 m0 l f D st H wn may p' s' x' a' c' m' ∧ p ≤ s' := by
  obtain ⟨h1, h2, ⟨xb, x1, x2, x3⟩, h4, h5, h6, h7, h8⟩ := h
  obtain ⟨c', m', p', s', x', a', e1, e2, k, hp, fc, fm⟩ := h1.next
  exact ⟨c', m', p', s', x', a', e1, e2, ⟨k, h2, ⟨xb, x1, (fc.1 _ _ (by omega)).trans x2, x3⟩, (fc.1 _ _ (by omega)).trans h4, (fm.1 _ _ (by omega)).trans h5, h6, (fm.1 _ _ (by omega)).trans h7, (fm.1 _ _ (by omega)).trans h8⟩, hp⟩
end LAWS3
