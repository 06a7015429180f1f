/-! Reading a text: the reference's law branch. -/
section LINES2
variable {c m : Hp}
theorem wrong_s (v : Int32) (m : Hp) : ∃ m', f12_wrong v m = some (0, m') := ⟨_, rfl⟩
theorem l148_s (m : Hp) : ∃ m', f12_lineRead_148 m = some (0, m') := by
  obtain ⟨m', e⟩ := wrong_s 1 m
  exact ⟨m', by simp only [f12_lineRead_148, e, Option.bind_some, gd, bzz, if_true]⟩
theorem r215_0 (h : Hp) : f12_lineRead_215 0 h = some (0, h) := by unfold f12_lineRead_215; rw [if_pos rfl]
theorem rxm6 {r : Int32} {h : Hp} (h1 : m.1 0 8 = 1) (h2 : m.1 0 9 = 6) (e : lwR m = some (r, h)) : f12_lineRead m = f12_lineRead_215 r h := by
  unfold f12_lineRead
  rw [if_pos h1, h2, if_pos (by decide)]
  unfold lt
  dsimp only
  rw [if_neg (by decide), if_neg (by decide), if_neg (by decide), if_neg (by decide), if_neg (by decide), if_neg (by decide)]
  unfold lwR lt at e
  dsimp only at e
  have k148 : ∀ g : Hp, f12_lineRead_148 g = some (r, h) → f12_lineRead_148 g = f12_lineRead_215 r h := by
    intro g eg
    obtain ⟨m', e'⟩ := l148_s g
    rw [e'] at eg
    have hr := Prod.mk.inj (Option.some.inj eg)
    rw [e', ← hr.1, ← hr.2, r215_0]
  cases et : f12_token m with
  | none => rw [et] at e; cases e
  | some h32 =>
    rw [et, Option.bind_some] at e
    rw [Option.bind_some]
    by_cases z1 : h32.1 0 8 = 1
    · rw [if_pos z1] at e ⊢
      by_cases z2 : h32.1 0 9 < 7
      · rw [if_pos z2] at e ⊢; exact k148 _ e
      · rw [if_neg z2] at e ⊢
        by_cases z3 : h32.1 0 9 ≤ 9
        · rw [if_pos z3] at e ⊢
          generalize 3 + h32.1 0 9 - 7 = v39 at e ⊢
          cases zb : inb v39 6 with
          | false => rw [zb] at e; cases e
          | true =>
            rw [zb] at e
            simp only [gd, if_true] at e ⊢
            by_cases z4 : h32.1 14 (ix v39) = 0
            · rw [if_pos z4] at e ⊢
              cases e44 : f12_token (wI h32 14 (ix v39) 1) with
              | none => rw [e44] at e; cases e
              | some h44 =>
                rw [e44, Option.bind_some] at e
                rw [Option.bind_some]
                cases es : f12_sumRead (wI h44 15 (ix v39) (h44.1 0 20)) with
                | none => rw [es] at e; cases e
                | some rr =>
                  obtain ⟨r47, h48⟩ := rr
                  rw [es, Option.bind_some] at e
                  rw [Option.bind_some]
                  have hr := Prod.mk.inj (Option.some.inj e)
                  rw [← hr.1, ← hr.2]
            · rw [if_neg z4] at e ⊢
              obtain ⟨m', e'⟩ := wrong_s 3 h32
              rw [e'] at e ⊢
              simp only [Option.bind_some, bzz, if_true] at e ⊢
              have hr := Prod.mk.inj (Option.some.inj e)
              rw [← hr.1, ← hr.2, r215_0]
        · rw [if_neg z3] at e ⊢; exact k148 _ e
    · rw [if_neg z1] at e ⊢; exact k148 _ e
end LINES2
