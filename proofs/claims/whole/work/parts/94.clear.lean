/-! Reading a text: the draft is cleared. -/
section CLEAR
variable {t : Nat} {c m : Hp}
theorem lclear : ∃ c', f5_clear (t + 14) c = some c' ∧ c'.2 = c.2 ∧ c'.1 (t + 14) 5 = 0 ∧ (∀ l, l < 3 → c'.1 (t + 14 + 3) l = 0 ∧ c'.1 (t + 14 + 4) l = 0) ∧ ∀ q k, ¬ (t + 14 ≤ q ∧ q ≤ t + 18) → c'.1 q k = c.1 q k := by
  have st : ∀ (i : Nat) (h : Hp), i < 3 → f5_clear_7_s (t + 14) (nI i) h = some (.inl (nI (i + 1), wI (wI h (t + 14 + 3) i 0) (t + 14 + 4) i 0)) := fun i h hi => by
    have g : ¬ (3 : Int32) ≤ nI i := by rw [lit]; exact nI_ge hi (by omega)
    simp only [f5_clear_7_s, g, if_false, gd, inb_t hi (by omega), ix_nI (show i < 2 ^ 31 by omega), if_true, lt, nI_1]
  obtain ⟨h1, e1⟩ : ∃ h1, h1 = wI (wI (wI c (t + 14) 5 0) (t + 14 + 3) 0 0) (t + 14 + 4) 0 0 := ⟨_, rfl⟩
  obtain ⟨h2, e2⟩ : ∃ h2, h2 = wI (wI h1 (t + 14 + 3) 1 0) (t + 14 + 4) 1 0 := ⟨_, rfl⟩
  obtain ⟨h3, e3⟩ : ∃ h3, h3 = wI (wI h2 (t + 14 + 3) 2 0) (t + 14 + 4) 2 0 := ⟨_, rfl⟩
  have s0 : f5_clear_7_s (t + 14) 0 (wI c (t + 14) 5 0) = some (.inl (nI 1, h1)) := by rw [e1]; exact st 0 _ (by omega)
  have s1 : f5_clear_7_s (t + 14) (nI 1) h1 = some (.inl (nI 2, h2)) := by rw [e2]; exact st 1 _ (by omega)
  have s2 : f5_clear_7_s (t + 14) (nI 2) h2 = some (.inl (nI 3, h3)) := by rw [e3]; exact st 2 _ (by omega)
  have s3 : f5_clear_7_s (t + 14) (nI 3) h3 = some (.inr h3) := by
    have g : (3 : Int32) ≤ nI 3 := by decide
    simp only [f5_clear_7_s, g, if_true]
  refine ⟨h3, ?_, by rw [e3, e2, e1]; rfl, ?_, fun l hl => ?_, fun q k n => ?_⟩
  · unfold f5_clear lt
    dsimp only
    unfold f5_clear_7
    rw [lp_inl (f := fun z : Int32 × Hp => f5_clear_7_s (t + 14) z.1 z.2) (s := (0, wI c (t + 14) 5 0)) s0, lp_inl (f := fun z : Int32 × Hp => f5_clear_7_s (t + 14) z.1 z.2) (s := (nI 1, h1)) s1, lp_inl (f := fun z : Int32 × Hp => f5_clear_7_s (t + 14) z.1 z.2) (s := (nI 2, h2)) s2]
    exact lp_inr (o := some h3) s3
  · rw [e3, wI_o (by omega), wI_o (by omega), e2, wI_o (by omega), wI_o (by omega), e1, wI_o (by omega), wI_o (by omega), wI_s]
  · have : l = 0 ∨ l = 1 ∨ l = 2 := by omega
    rcases this with rfl | rfl | rfl
    · exact ⟨by rw [e3, wI_o (by omega), wI_o (by omega), e2, wI_o (by omega), wI_o (by omega), e1, wI_o (by omega), wI_s], by rw [e3, wI_o (by omega), wI_o (by omega), e2, wI_o (by omega), wI_o (by omega), e1, wI_s]⟩
    · exact ⟨by rw [e3, wI_o (by omega), wI_o (by omega), e2, wI_o (by omega), wI_s], by rw [e3, wI_o (by omega), wI_o (by omega), e2, wI_s]⟩
    · exact ⟨by rw [e3, wI_o (by omega), wI_s], by rw [e3, wI_s]⟩
  · rw [e3, wI_o (by omega), wI_o (by omega), e2, wI_o (by omega), wI_o (by omega), e1, wI_o (by omega), wI_o (by omega), wI_o (by omega)]
end CLEAR
