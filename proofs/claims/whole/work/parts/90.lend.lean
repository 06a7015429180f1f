/-! Reading a text: a line's end. -/
section LINES
variable {T : Nat → Nat} {E t : Nat} {c0 m0 : Hp} {D D2 : Sp} {p s x a l f : Nat} {c m : Hp}
theorem isSign_ex (v : Int32) : ∃ r, f8_isSign v c = some r := by
  by_cases z : c.1 1 5 = 3
  · by_cases z2 : c.1 1 6 = v
    · exact ⟨1, by simp only [f8_isSign, z, if_true, z2]⟩
    · exact ⟨0, by simp only [f8_isSign, z, if_true, z2, if_false, f8_isSign_20]⟩
  · exact ⟨0, by simp only [f8_isSign, z, if_false, f8_isSign_20]⟩
theorem FCl.lend {f : Nat} (h : FCl t c0 f s c) : f7_readLine_142 c = some c := by
  obtain ⟨r, e⟩ := isSign_ex (c := c) 23
  simp only [f7_readLine_142, e, Option.bind_some, h.check, h.step]
theorem line_end {s0 : Nat} {rc : Option Hp} {rm : Option (Int32 × Hp)} (h : LO T E t c0 m0 s0 rc rm) : LO T E t c0 m0 s0 (rc.bind f7_readLine_142) (rm.bind fun (r, h) => f12_lineRead_215 r h) := by
  rcases h with ⟨D, p, s, x, a, c, m, e1, e2, k, hs⟩ | ⟨f, s, c, m, e1, e2, g1, g2⟩
  · have tk := k.1.2.2.2.2.2.2.2.1
    obtain ⟨q1, q2⟩ := sgn_eq tk (b := 23) (by omega) (by omega)
    have q1 : f8_isSign 23 c = _ := q1
    have q2 : f12_isSign 59 m = _ := q2
    have sp : s ≤ p := k.1.2.2.2.2.2.1
    by_cases z : x = 3 ∧ a = 23
    · rw [if_pos z] at q1 q2
      obtain ⟨c', m', p', s', x', a', n1, n2, k', hp, -, -⟩ := k.next
      have es : f7_step c = some c' := by simp only [f7_step, k.2.1.1, if_true, n1, Option.bind_some]
      refine Or.inl ⟨D, p', s', x', a', c', m', ?_, ?_, k', by omega⟩
      · rw [e1, Option.bind_some]
        simp only [f7_readLine_142, q1, Option.bind_some, f7_check, one_ne, if_false, es]
      · rw [e2, Option.bind_some]
        simp only [f12_lineRead_215, one_ne, if_false, q2, Option.bind_some, n2]
    · rw [if_neg z] at q1 q2
      obtain ⟨c2, m2, f1, f2, g1, g2⟩ := k.fail (f := 1) (by omega)
      have f1 : f7_fail 1 c = some c2 := f1
      have f2 : f12_wrong 1 m = some (0, m2) := f2
      refine Or.inr ⟨1, s, c2, m2, ?_, ?_, g1, g2⟩
      · rw [e1, Option.bind_some]
        simp only [f7_readLine_142, q1, Option.bind_some, f7_check, if_true, f1, g1.step]
      · rw [e2, Option.bind_some]
        simp only [f12_lineRead_215, one_ne, if_false, q2, Option.bind_some, if_true, f2, gd, bzz]
  · refine Or.inr ⟨f, s, c, m, ?_, ?_, g1, g2⟩
    · rw [e1, Option.bind_some, g1.lend]
    · rw [e2, Option.bind_some]
      simp only [f12_lineRead_215, if_true]
theorem rl0 (h1 : c.1 1 5 = 1) (h2 : c.1 1 6 = 83623936) : f7_readLine c = (f7_readBox c).bind f7_readLine_142 := by
  unfold f7_readLine; rw [if_pos h1, h2]; unfold f7_readLine_22; rw [if_pos rfl]
theorem rl4 (h1 : c.1 1 5 = 1) (h2 : c.1 1 6 = 135708672) : f7_readLine c = (f7_readDamp c).bind f7_readLine_142 := by
  unfold f7_readLine; rw [if_pos h1, h2]; unfold f7_readLine_22; rw [if_neg (by decide), if_pos rfl]
theorem rl3 (h1 : c.1 1 5 = 1) (h2 : c.1 1 6 = 257085056) : f7_readLine c = (f7_readGuest c).bind f7_readLine_142 := by
  unfold f7_readLine; rw [if_pos h1, h2]; unfold f7_readLine_22; rw [if_neg (by decide), if_neg (by decide), if_pos rfl]
theorem rl2 (h1 : c.1 1 5 = 1) (h2 : c.1 1 6 = 378994688) : f7_readLine c = (f7_readKin c).bind f7_readLine_142 := by
  unfold f7_readLine; rw [if_pos h1, h2]; unfold f7_readLine_22; rw [if_neg (by decide), if_neg (by decide), if_neg (by decide), if_pos rfl]
theorem rl6 (h1 : c.1 1 5 = 1) (h2 : c.1 1 6 = 404455424) : f7_readLine c = (f7_readLaw c).bind f7_readLine_142 := by
  unfold f7_readLine; rw [if_pos h1, h2]; unfold f7_readLine_22; rw [if_neg (by decide), if_neg (by decide), if_neg (by decide), if_neg (by decide), if_pos rfl]
theorem rl5 (h1 : c.1 1 5 = 1) (h2 : c.1 1 6 = 642945024) : f7_readLine c = (f7_readSeed c).bind f7_readLine_142 := by
  unfold f7_readLine; rw [if_pos h1, h2]; unfold f7_readLine_22; rw [if_neg (by decide), if_neg (by decide), if_neg (by decide), if_neg (by decide), if_neg (by decide), if_pos rfl]
theorem rl1 (h1 : c.1 1 5 = 1) (h2 : c.1 1 6 = 687329536) : f7_readLine c = (f7_readTooth c).bind f7_readLine_142 := by
  unfold f7_readLine; rw [if_pos h1, h2]; unfold f7_readLine_22; rw [if_neg (by decide), if_neg (by decide), if_neg (by decide), if_neg (by decide), if_neg (by decide), if_neg (by decide), if_pos rfl]
theorem rxm0 (h1 : m.1 0 8 = 1) (h2 : m.1 0 9 = 0) : f12_lineRead m = (f12_boxLine m).bind fun (r, h) => f12_lineRead_215 r h := by
  unfold f12_lineRead; rw [if_pos h1, h2, if_pos (by decide)]; unfold lt; dsimp only; rw [if_pos rfl]
theorem rxm1 (h1 : m.1 0 8 = 1) (h2 : m.1 0 9 = 1) : f12_lineRead m = (f12_toothLine m).bind fun (r, h) => f12_lineRead_215 r h := by
  unfold f12_lineRead; rw [if_pos h1, h2, if_pos (by decide)]; unfold lt; dsimp only; rw [if_neg (by decide), if_pos rfl]
theorem rxm2 (h1 : m.1 0 8 = 1) (h2 : m.1 0 9 = 2) : f12_lineRead m = (f12_kinLine m).bind fun (r, h) => f12_lineRead_215 r h := by
  unfold f12_lineRead; rw [if_pos h1, h2, if_pos (by decide)]; unfold lt; dsimp only; rw [if_neg (by decide), if_neg (by decide), if_pos rfl]
theorem rxm3 (h1 : m.1 0 8 = 1) (h2 : m.1 0 9 = 3) : f12_lineRead m = (f12_guestLine m).bind fun (r, h) => f12_lineRead_215 r h := by
  unfold f12_lineRead; rw [if_pos h1, h2, if_pos (by decide)]; unfold lt; dsimp only; rw [if_neg (by decide), if_neg (by decide), if_neg (by decide), if_pos rfl]
theorem rxm4 (h1 : m.1 0 8 = 1) (h2 : m.1 0 9 = 4) : f12_lineRead m = (f12_onceLine 0 100 m).bind fun (r, h) => f12_lineRead_215 r h := by
  unfold f12_lineRead; rw [if_pos h1, h2, if_pos (by decide)]; unfold lt; dsimp only; rw [if_neg (by decide), if_neg (by decide), if_neg (by decide), if_neg (by decide), if_pos rfl]
theorem rxm5 (h1 : m.1 0 8 = 1) (h2 : m.1 0 9 = 5) : f12_lineRead m = (f12_onceLine 1 99999 m).bind fun (r, h) => f12_lineRead_215 r h := by
  unfold f12_lineRead; rw [if_pos h1, h2, if_pos (by decide)]; unfold lt; dsimp only; rw [if_neg (by decide), if_neg (by decide), if_neg (by decide), if_neg (by decide), if_neg (by decide), if_pos rfl]
end LINES
