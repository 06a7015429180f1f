/-! Reading a text: a line, on both sides. -/
section LINES3
variable {T : Nat → Nat} {E t : Nat} {c0 m0 : Hp} {D D2 : Sp} {p s x a l f : Nat} {c m : Hp}
theorem rlx {v : Int32} (n0 : ¬ v = 83623936) (n4 : ¬ v = 135708672) (n3 : ¬ v = 257085056) (n2 : ¬ v = 378994688) (n6 : ¬ v = 404455424) (n5 : ¬ v = 642945024) (n1 : ¬ v = 687329536) : f7_readLine_22 v c = (f7_fail 1 c).bind f7_readLine_142 := by
  unfold f7_readLine_22
  rw [if_neg n0, if_neg n4, if_neg n3, if_neg n2, if_neg n6, if_neg n5, if_neg n1]
theorem rl_no (h1 : ¬ c.1 1 5 = 1) : f7_readLine c = (f7_fail 1 c).bind f7_readLine_142 := by
  unfold f7_readLine
  rw [if_neg h1]
  exact rlx (by decide) (by decide) (by decide) (by decide) (by decide) (by decide) (by decide)
theorem rl_na {a : Nat} (h1 : c.1 1 5 = 1) (h2 : c.1 1 6 = nI a) (ha : a < 2 ^ 31) (hn : ∀ w, w < 7 → a ≠ langN w) : f7_readLine c = (f7_fail 1 c).bind f7_readLine_142 := by
  have ne : ∀ w, w < 7 → ¬ nI a = nI (langN w) := fun w hw e => hn w hw ((nI_eq ha (lang_all w (Nat.lt_of_lt_of_le hw (by decide))).2.2.2.2.2.2.1).mp e)
  have n0 : ¬ nI a = 83623936 := ne 0 (by decide)
  have n1 : ¬ nI a = 687329536 := ne 1 (by decide)
  have n2 : ¬ nI a = 378994688 := ne 2 (by decide)
  have n3 : ¬ nI a = 257085056 := ne 3 (by decide)
  have n4 : ¬ nI a = 135708672 := ne 4 (by decide)
  have n5 : ¬ nI a = 642945024 := ne 5 (by decide)
  have n6 : ¬ nI a = 404455424 := ne 6 (by decide)
  unfold f7_readLine
  rw [if_pos h1, h2]
  exact rlx n0 n4 n3 n2 n6 n5 n1
theorem rx_no (h1 : ¬ m.1 0 8 = 1) : f12_lineRead m = f12_lineRead_17 m := by
  unfold f12_lineRead
  rw [if_neg h1]
theorem rx_na (h1 : m.1 0 8 = 1) (h2 : ¬ m.1 0 9 ≤ 6) : f12_lineRead m = f12_lineRead_17 m := by
  unfold f12_lineRead
  rw [if_pos h1, if_neg h2]
theorem no_line (h : RB T E t c0 m0 D D p s x a c m) (e1 : f7_readLine c = (f7_fail 1 c).bind f7_readLine_142) (e2 : f12_lineRead m = f12_lineRead_17 m) : LO T E t c0 m0 s (f7_readLine c) (f12_lineRead m) := by
  obtain ⟨c2, m2, f1, f2, g1, g2⟩ := h.fail (f := 1) (by omega)
  have f1 : f7_fail 1 c = some c2 := f1
  have f2 : f12_wrong 1 m = some (0, m2) := f2
  refine Or.inr ⟨1, s, c2, m2, ?_, ?_, g1, g2⟩
  · rw [e1, f1, Option.bind_some, g1.lend]
  · rw [e2]
    simp only [f12_lineRead_17, f2, Option.bind_some, gd, bzz, if_true]
theorem w7c : ∀ w, w < 7 → w = 0 ∨ w = 1 ∨ w = 2 ∨ w = 3 ∨ w = 4 ∨ w = 5 ∨ w = 6 := fun w hw => by omega
theorem lngs : nI (langN 0) = (83623936 : Int32) ∧ nI (langN 1) = (687329536 : Int32) ∧ nI (langN 2) = (378994688 : Int32) ∧ nI (langN 3) = (257085056 : Int32) ∧ nI (langN 4) = (135708672 : Int32) ∧ nI (langN 5) = (642945024 : Int32) ∧ nI (langN 6) = (404455424 : Int32) := ⟨rfl, rfl, rfl, rfl, rfl, rfl, rfl⟩
theorem lits : nI 0 = (0 : Int32) ∧ nI 1 = (1 : Int32) ∧ nI 2 = (2 : Int32) ∧ nI 3 = (3 : Int32) ∧ nI 4 = (4 : Int32) ∧ nI 5 = (5 : Int32) ∧ nI 6 = (6 : Int32) := ⟨rfl, rfl, rfl, rfl, rfl, rfl, rfl⟩
theorem line_all (h : RB T E t c0 m0 D D p s x a c m) (hx : x ≠ 0) : LO T E t c0 m0 s (f7_readLine c) (f12_lineRead m) := by
  have tk := h.1.2.2.2.2.2.2.2.1
  by_cases x1 : x = 1
  · subst x1
    obtain ⟨t1, t2, t3, t4⟩ := tk
    rcases t4 with ⟨w, hw, ew, u1, u2⟩ | ⟨hn, u1, u2⟩
    · by_cases z : w < 7
      · obtain ⟨g0, g1, g2, g3, g4, g5, g6⟩ := lngs
        obtain ⟨i0, i1, i2, i3, i4, i5, i6⟩ := lits
        rw [ew] at t2
        rcases w7c w z with e | e | e | e | e | e | e
        · rw [e, g0] at t2; rw [e, i0] at u2
          rw [rl0 t1 t2, rxm0 u1 u2]; exact line_end (box_line h hx)
        · rw [e, g1] at t2; rw [e, i1] at u2
          rw [rl1 t1 t2, rxm1 u1 u2]; exact line_end (tooth_line h hx)
        · rw [e, g2] at t2; rw [e, i2] at u2
          rw [rl2 t1 t2, rxm2 u1 u2]; exact line_end (kin_line h hx)
        · rw [e, g3] at t2; rw [e, i3] at u2
          rw [rl3 t1 t2, rxm3 u1 u2]; exact line_end (guest_line h hx)
        · rw [e, g4] at t2; rw [e, i4] at u2
          rw [rl4 t1 t2, rxm4 u1 u2]; exact line_end (damp_line h hx)
        · rw [e, g5] at t2; rw [e, i5] at u2
          rw [rl5 t1 t2, rxm5 u1 u2]; exact line_end (seed_line h hx)
        · rw [e, g6] at t2; rw [e, i6] at u2
          have ll := law_line h hx
          have el : ∃ r g, lwR m = some (r, g) := by
            rcases ll with ⟨_, _, _, _, _, _, m', _, e2, _⟩ | ⟨_, _, _, m', _, e2, _⟩
            · exact ⟨_, _, e2⟩
            · exact ⟨_, _, e2⟩
          obtain ⟨r, g, el⟩ := el
          have er : f12_lineRead m = (lwR m).bind fun (r, h) => f12_lineRead_215 r h := by
            rw [rxm6 u1 u2 el, el, Option.bind_some]
          rw [rl6 t1 t2, er]; exact line_end ll
      · refine no_line h (rl_na t1 t2 t3 (fun v hv e => z ?_)) (rx_na u1 ?_)
        · have := lang_inj w hw v (Nat.lt_of_lt_of_le hv (by decide)) (ew.symm.trans e)
          rw [this]; exact hv
        · rw [u2, lit]; exact nI_ge (by omega) (by omega)
    · exact no_line h (rl_na t1 t2 t3 (fun v hv e => hn v (Nat.lt_of_lt_of_le hv (by decide)) e)) (rx_no (by rw [u1]; decide))
  · have nc : ¬ c.1 1 5 = 1 ∧ ¬ m.1 0 8 = 1 := by
      rcases x with _ | _ | _ | _ | _ | _ | _
      · exact absurd rfl hx
      · exact absurd rfl x1
      · rw [tk.1, tk.2.1]; decide
      · rw [tk.1, tk.2.1]; decide
      · rw [tk.1, tk.2.1]; decide
      · rw [tk.1]
        refine ⟨by decide, ?_⟩
        rcases tk.2 with u | ⟨u, -⟩ <;> rw [u] <;> decide
      · exact tk.elim
    exact no_line h (rl_no nc.1) (rx_no nc.2)
end LINES3
