/-! Reading a text: the empty draft, the class's side. -/
def D0 : Sp := fun _ _ => 0
section CLEAR2
variable {t : Nat} {c m : Hp}
theorem clear_dr (ht : t = 55 ∨ t = 78) : ∃ c', f10_clear t c = some c' ∧ c'.2 = c.2 ∧ drC D0 t c' ∧ c'.1 t 11 = 0 ∧ ∀ q k, ¬ q = t → ¬ (t + 14 ≤ q ∧ q ≤ t + 18) → c'.1 q k = c.1 q k := by
  obtain ⟨c1, e1, f2, l5, l3, fo⟩ := lclear (t := t) (c := c)
  obtain ⟨C, eC⟩ : ∃ C, C = wI (wI (wI (wI (wI (wI (wI (wI (wI c1 t 5 0) t 6 0) t 7 0) t 8 0) t 9 0) t 10 0) t 11 0) t 12 0) t 13 0 := ⟨_, rfl⟩
  have oC : ∀ q k, ¬ q = t → C.1 q k = c1.1 q k := fun q k n => by rw [eC, wI_o (by omega), wI_o (by omega), wI_o (by omega), wI_o (by omega), wI_o (by omega), wI_o (by omega), wI_o (by omega), wI_o (by omega), wI_o (by omega)]
  refine ⟨C, ?_, ?_, ⟨⟨?_, ?_, ?_, ?_, ?_, ?_, ?_, ?_, ?_⟩, fun i hi => absurd hi (Nat.not_lt_zero i), fun g hg => absurd hg (Nat.not_lt_zero g), ht, fun i hi => absurd hi (Nat.not_lt_zero i), fun l hl => ?_⟩, ?_, fun q k n1 n2 => ?_⟩
  · simp only [f10_clear, e1, Option.bind_some, lt, ← eC]
  · rw [eC]; exact f2
  · rw [eC, wI_o (by omega), wI_o (by omega), wI_o (by omega), wI_o (by omega), wI_o (by omega), wI_o (by omega), wI_o (by omega), wI_o (by omega), wI_s]; rfl
  · rw [eC, wI_o (by omega), wI_o (by omega), wI_o (by omega), wI_o (by omega), wI_o (by omega), wI_o (by omega), wI_o (by omega), wI_s]; rfl
  · rw [eC, wI_o (by omega), wI_o (by omega), wI_o (by omega), wI_o (by omega), wI_o (by omega), wI_o (by omega), wI_s]; rfl
  · rw [eC, wI_o (by omega), wI_o (by omega), wI_o (by omega), wI_o (by omega), wI_o (by omega), wI_s]; rfl
  · rw [eC, wI_o (by omega), wI_o (by omega), wI_o (by omega), wI_o (by omega), wI_s]; rfl
  · rw [eC, wI_o (by omega), wI_o (by omega), wI_o (by omega), wI_s]; rfl
  · rw [eC, wI_o (by omega), wI_s]; rfl
  · rw [eC, wI_s]; rfl
  · rw [oC _ _ (by omega)]; exact l5
  · rw [oC _ _ (by omega), oC _ _ (by omega)]; exact l3 l hl
  · rw [eC, wI_o (by omega), wI_o (by omega), wI_s]
  · rw [oC q k n1]; exact fo q k n2
end CLEAR2
