/-! The whole relation; calls that only look. -/
def RR (S : Sp) (t : Nat) (c m : Hp) : Prop := (wfNow S ∧ wfTold S ∧ wfLaws S ∧ wfFnd S ∧ wfUnd S ∧ wfImg S ∧ wfTap S) ∧ (nowC S c ∧ toldC S t c ∧ lawC S t c ∧ fndC S c ∧ undC S c ∧ imgC S c ∧ tapC S c ∧ fltC S c) ∧ (nowM S m ∧ toldM S m ∧ lawM S m ∧ fndM S m ∧ undM S m ∧ imgM S m ∧ tapM S m ∧ fltM S m) ∧ (bzM m ∧ wrdM m) ∧ (zT 55 c ∧ zT 78 c ∧ c.2.2 0 12 = some (133 - t))
section RRs
variable {S S' : Sp} {t : Nat} {c c' m m' : Hp}
/-- all but what now and undo say moves, where the cells stand as they were -/
theorem RR.mv (h : RR S t c m) (e : eT S S') (i : eI' S S') (ef : eF S S') (ep : eP S S') (ee : eE S S') (w1 : wfNow S') (w2 : wfUnd S') (a1 : nowC S' c') (a2 : undC S' c') (b1 : nowM S' m') (b2 : undM S' m') (b3 : bzM m')
    (r : c'.2.2 = c.2.2) (f : ∀ q k, ¬ (6 ≤ q ∧ q ≤ 19) → ¬ (34 ≤ q ∧ q ≤ 38) → ¬ (44 ≤ q ∧ q ≤ 54) → c'.1 q k = c.1 q k) (g : ∀ q k, (q = 0 ∧ (k = 1 ∨ k = 4 ∨ k = 5 ∨ 12 ≤ k ∧ k ≤ 15 ∨ k = 65 ∨ k = 66 ∨ k = 71)) ∨ (1 ≤ q ∧ q ≤ 21) ∨ q = 34 ∨ q = 37 ∨ q = 38 → m'.1 q k = m.1 q k) (g2 : m'.2.1 0 74 = m.2.1 0 74) : RR S' t c' m' := by
  obtain ⟨⟨v1, v2, v3, v4, v5, v6, v7⟩, ⟨c1, c2, c3, c4, c5, c6, c7, c8⟩, ⟨m1, m2, m3, m4, m5, m6, m7, m8⟩, ⟨x1, x2⟩, y1, y2, y3⟩ := h
  have hn := v1.1
  have f55 : ∀ q k, 55 ≤ q → c'.1 q k = c.1 q k := fun q k z => f q k (by omega) (by omega) (by omega)
  refine ⟨⟨w1, v2.mv e, v3.cg (e 0 3 (by omega)) (fun a b h1 h2 => e a b (by omega)), v4.mv ef, w2, v6.mv e i, v7.mv ep⟩, ⟨a1, c2.mv hn e (by rw [r]) f55, c3.mv e f55, c4.mv ef (fun q k h1 h2 => f q k (by omega) (by omega) (by omega)), a2, c6.mv hn e i (f _ _ (by omega) (by omega) (by omega)) (fun q k h1 h2 => f q k (by omega) (by omega) (by omega)), c7.mv ep (fun q k z => f q k (by omega) (by omega) (by omega)), c8.mv ee (fun k z => f _ k (by omega) (by omega) (by omega))⟩, ⟨b1, m2.mv e (fun q k z => g q k (by omega)), m3.mv e (fun q k h1 h2 => g q k (by omega)), m4.mv ef (fun q k z => g q k (by omega)), b2, m6.mv e i (fun q k z => g q k (by omega)) g2, m7.mv ep (fun q k z => g q k (by omega)), m8.mv ee (fun k z => g _ k (by omega))⟩, ⟨b3, x2.mv (fun k => g _ k (by omega))⟩, y1.mv (by omega) f55, y2.mv (by omega) f55, by rw [r]; exact y3⟩
theorem RR.q (h : RR S t c m) (f : frC c c') (g : frM m m') : RR S t c' m' :=
  h.mv (fun _ _ _ => rfl) (fun _ _ _ => rfl) (fun _ _ _ => rfl) (fun _ _ _ => rfl) (fun _ _ _ => rfl) h.1.1 h.1.2.2.2.2.1 (h.2.1.1.fr h.1.1 f) (h.2.1.2.2.2.2.1.mv (fun _ _ _ => rfl) (fun q k h1 h2 => f.1 q k (by unfold scrC; omega))) (h.2.2.1.1.fr h.1.1 g) (h.2.2.1.2.2.2.2.1.mv (fun _ _ _ => rfl) (fun q k z => g.1 q k (by unfold scrM; omega))) (h.2.2.2.1.1.fr g) f.2 (fun q k n1 n2 n3 => f.1 q k (by unfold scrC; omega)) (fun q k z => g.1 q k (by unfold scrM; omega)) g.2.2
/-- a pair of calls that answer alike and keep the relation -/
def OK1 (S : Sp) (t : Nat) (a : Option Int32) (b : Option (Int32 × Hp)) (c : Hp) : Prop := ∃ r m', a = some r ∧ b = some (r, m') ∧ RR S t c m'
def OK2 (a b : Option (Int32 × Hp)) : Prop := ∃ S t r c' m', a = some (r, c') ∧ b = some (r, m') ∧ RR S t c' m'
def OK3 (a b : Option (Int64 × Hp)) : Prop := ∃ S t r c' m', a = some (r, c') ∧ b = some (r, m') ∧ RR S t c' m'
theorem RR.o1 (h : RR S t c m) {a : Option Int32} {b : Option (Int32 × Hp)} (o : ∃ r m', a = some r ∧ b = some (r, m') ∧ frM m m') : OK1 S t a b c := by
  obtain ⟨r, m', e1, e2, f⟩ := o
  exact ⟨r, m', e1, e2, h.q frC.rf f⟩
theorem RR.o2 (h : RR S t c m) {a b : Option (Int32 × Hp)} (o : ∃ r c' m', a = some (r, c') ∧ b = some (r, m') ∧ frC c c' ∧ frM m m') : OK2 a b := by
  obtain ⟨r, c', m', e1, e2, f, g⟩ := o
  exact ⟨S, t, r, c', m', e1, e2, h.q f g⟩
theorem RR.o3 (h : RR S t c m) {a b : Option (Int64 × Hp)} (o : ∃ r c' m', a = some (r, c') ∧ b = some (r, m') ∧ frC c c' ∧ frM m m') : OK3 a b := by
  obtain ⟨r, c', m', e1, e2, f, g⟩ := o
  exact ⟨S, t, r, c', m', e1, e2, h.q f g⟩
theorem r_fault (h : RR S t c m) (x : Int32) : OK1 S t (f11_fault x c) (f12_fault x m) c := h.o1 (op_fault h.2.1.2.2.2.2.2.2.2 h.2.2.1.2.2.2.2.2.2.2 x)
theorem r_named (h : RR S t c m) (x y : Int32) : OK1 S t (f11_named x y c) (f12_named x y m) c := h.o1 (op_named h.1.1 h.1.2.1 h.2.1.2.1 h.2.2.1.1 h.2.2.1.2.1 x y)
theorem r_pin (h : RR S t c m) (x y : Int32) : OK1 S t (f11_pin x y c) (f12_pin x y m) c := h.o1 (op_pin h.1.1 h.2.1.1 h.2.2.1.1 x y)
theorem r_heard (h : RR S t c m) (x y : Int32) : OK1 S t (f11_heard x y c) (f12_heard x y m) c := h.o1 (op_heard h.1.1 h.2.1.1 h.2.2.1.1 x y)
theorem r_guest (h : RR S t c m) (x y : Int32) : OK1 S t (f11_guest x y c) (f12_guest x y m) c := h.o1 (op_guest h.1.2.1 h.2.1.2.1 h.2.2.1.2.1 x y)
theorem r_kin (h : RR S t c m) (x y : Int32) : OK1 S t (f11_kin x y c) (f12_kin x y m) c := h.o1 (op_kin h.1.1 h.2.1.1 h.2.2.1.1 x y)
theorem r_law (h : RR S t c m) (x y : Int32) : OK3 (f11_law x y c) (f12_law x y m) := h.o3 (op_law h.1.1 h.1.2.2.1 h.2.1.1 h.2.2.1.1 h.2.1.2.1 h.2.1.2.2.1 h.2.2.1.2.2.1 x y)
theorem r_ahead (h : RR S t c m) (x y z : Int32) : OK2 (f11_ahead x y z c) (f12_ahead x y z m) := h.o2 (op_ahead h.1.1 h.1.2.1 h.1.2.2.1 h.2.1.1 h.2.2.1.1 h.2.1.2.1 h.2.2.1.2.1 h.2.1.2.2.1 h.2.2.1.2.2.1 h.2.2.2.1.1 x y z)
theorem r_alike (h : RR S t c m) (x y z : Int32) : OK2 (f11_alike x y z c) (f12_alike x y z m) := h.o2 (op_alike h.1.1 h.2.1.1 h.2.2.1.1 x y z)
theorem r_like (h : RR S t c m) (x y z : Int32) : OK2 (f11_like x y z c) (f12_like x y z m) := h.o2 (op_like h.1.1 h.2.1.1 h.2.2.1.1 x y z)
theorem r_whose (h : RR S t c m) : OK2 (f11_whose c) (f12_whose m) := h.o2 (op_whose h.1.1 h.1.2.2.2.1 h.2.1.1 h.2.2.1.1 h.2.1.2.2.2.1 h.2.2.1.2.2.2.1)
theorem r_fill (h : RR S t c m) (x y : Int32) : OK2 (f11_fill x y c) (f12_fill x y m) := h.o2 (op_fill h.1.1 h.2.1.1 h.2.2.1.1 x y)
theorem r_join (h : RR S t c m) (x y : Int32) : OK2 (f11_join x y c) (f12_join x y m) := h.o2 (op_join h.1.1 h.2.1.1 h.2.2.1.1 x y)
theorem r_duet (h : RR S t c m) (x y : Int32) : OK2 (f11_duet x y c) (f12_duet x y m) := h.o2 (op_duet h.1.1 h.2.1.1 h.2.2.1.1 x y)
theorem r_tree (h : RR S t c m) : OK2 (f11_tree c) (f12_tree m) := h.o2 (op_tree h.1.1 h.2.1.1 h.2.2.1.1)
theorem r_far (h : RR S t c m) (x y : Int32) : OK1 S t (f11_far x y c) (f12_far x y m) c := h.o1 (op_far h.1.1 h.2.1.1 h.2.2.1.1 x y)
theorem r_forged (h : RR S t c m) : OK2 (f11_forged c) (f12_forged m) := h.o2 (op_forged h.1.1 h.2.1.1 h.2.2.1.1)
theorem r_lasts (h : RR S t c m) (x : Int32) : OK2 (f11_lasts x c) (f12_lasts x m) := h.o2 (op_lasts h.1.1 h.1.2.1 h.1.2.2.1 h.2.1.1 h.2.2.1.1 h.2.1.2.1 h.2.2.1.2.1 h.2.1.2.2.1 h.2.2.1.2.2.1 h.2.2.2.1.1 x)
theorem r_winding (h : RR S t c m) (x y z : Int32) : OK2 (f11_winding x y z c) (f12_winding x y z m) := h.o2 (op_winding h.1.1 h.1.2.1 h.1.2.2.1 h.2.1.1 h.2.2.1.1 h.2.1.2.1 h.2.2.1.2.1 h.2.1.2.2.1 h.2.2.1.2.2.1 h.2.2.2.1.1 x y z)
theorem r_laughBack (h : RR S t c m) (x : Int32) : OK1 S t (f11_laughBack x c) (f12_laughBack x m) c := h.o1 (op_laughBack h.1.1 h.1.2.1 h.2.1.1 h.2.2.1.1 h.2.1.2.1 h.2.2.1.2.1 x)
theorem r_rests (h : RR S t c m) (x : Int32) : OK2 (f11_rests x c) (f12_rests x m) := h.o2 (op_rests h.1.1 h.1.2.1 h.1.2.2.1 h.2.1.1 h.2.2.1.1 h.2.1.2.1 h.2.2.1.2.1 h.2.1.2.2.1 h.2.2.1.2.2.1 h.2.2.2.1.1 x)
theorem r_rest (h : RR S t c m) (x y : Int32) : OK2 (f11_rest x y c) (f12_rest x y m) := h.o2 (op_rest h.1.1 h.1.2.1 h.1.2.2.1 h.2.1.1 h.2.2.1.1 h.2.1.2.1 h.2.2.1.2.1 h.2.1.2.2.1 h.2.2.1.2.2.1 h.2.2.2.1.1 x y)
theorem r_ask (h : RR S t c m) (x : Int32) : OK2 (f11_ask x c) (f12_ask x m) := h.o2 (op_ask h.1.1 h.1.2.2.2.1 h.2.1.1 h.2.2.1.1 h.2.1.2.2.2.1 h.2.2.1.2.2.2.1 x)
theorem r_stay (h : RR S t c m) (x : Int32) : OK1 S t (f11_stay x c) (f12_stay x m) c := h.o1 (op_stay h.1.1 h.1.2.1 h.2.1.1 h.2.2.1.1 h.2.1.2.1 h.2.2.1.2.1 x)
theorem r_line (h : RR S t c m) (x : Int32) : OK2 (f11_line x c) (f12_line x m) := h.o2 (op_line h.1.1 h.2.1.1 h.2.2.1.1 x)
theorem r_quote (h : RR S t c m) (x y : Int32) : OK2 (f11_quote x y c) (f12_quote x y m) := h.o2 (op_quote h.1.1 h.2.1.1 h.2.2.1.1 x y)
theorem r_merriest (h : RR S t c m) : OK1 S t (f11_merriest c) (f12_merriest m) c := h.o1 (op_merriest h.1.1 h.2.1.1 h.2.2.1.1)
theorem r_silent (h : RR S t c m) : OK1 S t (f11_silent c) (f12_silent m) c := h.o1 (op_silent h.1.1 h.2.1.1 h.2.2.1.1)
theorem r_runDown (h : RR S t c m) (x : Int32) : OK2 (f11_runDown x c) (f12_runDown x m) := h.o2 (op_runDown h.1.1 h.1.2.1 h.1.2.2.1 h.2.1.1 h.2.2.1.1 h.2.1.2.1 h.2.2.1.2.1 h.2.1.2.2.1 h.2.2.1.2.2.1 h.2.2.2.1.1 x)
theorem r_sours (h : RR S t c m) (x : Int32) : OK2 (f11_sours x c) (f12_sours x m) := h.o2 (op_sours h.1.1 h.1.2.2.2.1 h.2.1.1 h.2.2.1.1 h.2.1.2.2.2.1 h.2.2.1.2.2.2.1 x)
theorem r_chance (h : RR S t c m) (x y z u : Int32) : OK2 (f11_chance x y z u c) (f12_chance x y z u m) := h.o2 (op_chance h.1.1 h.1.2.1 h.1.2.2.1 h.2.1.1 h.2.2.1.1 h.2.1.2.1 h.2.2.1.2.1 h.2.1.2.2.1 h.2.2.1.2.2.1 h.2.2.2.1.1 x y z u)
theorem r_tried (h : RR S t c m) (x y z : Int32) : OK2 (f11_tried x y z c) (f12_tried x y z m) := h.o2 (op_tried h.1.1 h.1.2.1 h.1.2.2.1 h.2.1.1 h.2.2.1.1 h.2.1.2.1 h.2.2.1.2.1 h.2.1.2.2.1 h.2.2.1.2.2.1 h.2.2.2.1.1 x y z)
theorem r_count (h : RR S t c m) (x : Int32) : OK1 S t (f11_count x c) (f12_count x m) c := h.o1 (op_count h.1.1 h.1.2.2.2.1 h.2.1.1 h.2.2.1.1 h.2.1.2.1 h.2.2.1.2.1 h.2.1.2.2.2.1 h.2.2.1.2.2.2.1 h.2.1.2.2.2.2.1 h.2.2.1.2.2.2.2.1 x)
end RRs
