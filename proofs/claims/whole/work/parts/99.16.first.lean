/-! The relation holds of two new objects. -/
theorem c0_z {p k : Nat} (h1 : ¬ (p = 3 ∧ k = 4)) (h2 : ¬ (p = 39 ∧ k = 6)) : c0.1 p k = 0 := by
  show (if p = 3 ∧ k = 4 then (-1 : Int32) else if p = 39 ∧ k = 6 then -1 else 0) = 0
  rw [if_neg h1, if_neg h2]
theorem RR_first {m1 m2 : Hp} (e1 : f12_plain m00 = some m1) (e2 : f12_keepText m1 = some m2) : RR (newS D0) 55 c0 m2 := by
  obtain ⟨m1', e1', -, dm, om⟩ := plain_dr (m := m00)
  have q1 : m1' = m1 := Option.some.inj (e1'.symm.trans e1)
  subst q1
  have w0 : wrdM m1' := fun j hj => by
    rw [om 2 j (by unfold plS; omega)]
    show gWo 101 j = nI (wl j)
    unfold gWo
    rw [if_pos hj]
  have f0 : m1'.1 0 1 = 0 ∧ m1'.1 0 4 = 0 ∧ m1'.1 0 5 = -1 := ⟨by rw [om 0 1 (by unfold plS; omega)]; rfl, by rw [om 0 4 (by unfold plS; omega)]; rfl, by rw [om 0 5 (by unfold plS; omega)]; rfl⟩
  obtain ⟨m2', e2', M, b2, w2⟩ := took_m wfD0 dm w0 f0
  have q2 : m2' = m2 := Option.some.inj (e2'.symm.trans e2)
  subst q2
  have z : ∀ b, newS D0 0 b = 0 := fun b => by
    unfold newS
    rw [if_pos rfl]
    by_cases h5 : b = 5
    · rw [if_pos h5]; rfl
    · rw [if_neg h5]
      by_cases h3 : b ≤ 3 ∨ b = 7
      · rw [if_pos h3]; rfl
      · rw [if_neg h3]
  have no : ∀ i b, ¬ i < newS D0 0 b := fun i b h => by rw [z b] at h; exact Nat.not_lt_zero i h
  refine ⟨wf_new wfD0, ⟨⟨?_, ?_, ?_, ?_, fun i hi => absurd hi (no i 0)⟩, ⟨rfl, Or.inl rfl, ?_, ?_, ?_, ?_, ?_, fun i hi => absurd hi (no i 0), fun i hi => absurd hi (no i 1)⟩, ⟨Or.inl rfl, fun i hi => absurd hi (no i 3), fun l hl => ⟨?_, ?_⟩⟩, ⟨?_, ?_, fun i hi => absurd hi (no i 14)⟩, ⟨?_, fun i hi => absurd hi (no i 12)⟩, ⟨?_, fun h => ?_⟩, ⟨?_, fun i hi => absurd hi (no i 9)⟩, ⟨?_, ?_⟩⟩, M, ⟨b2, w2⟩, fun i hi => ⟨?_, ?_, ?_, ?_⟩, fun i hi => ⟨?_, ?_, ?_, ?_⟩, rfl⟩
  · rw [z]; exact c0_z (by omega) (by omega)
  · rw [z]; exact c0_z (by omega) (by omega)
  · rw [z]; exact c0_z (by omega) (by omega)
  · rw [z]; exact c0_z (by omega) (by omega)
  · rw [z]; exact c0_z (by omega) (by omega)
  · rw [z]; exact c0_z (by omega) (by omega)
  · rw [z]; exact c0_z (by omega) (by omega)
  · rw [z]; exact c0_z (by omega) (by omega)
  · rw [z]; exact c0_z (by omega) (by omega)
  · rw [nS_o (by omega) (by omega)]; exact c0_z (by omega) (by omega)
  · rw [nS_o (by omega) (by omega)]; exact c0_z (by omega) (by omega)
  · rw [z]; exact c0_z (by omega) (by omega)
  · rw [z]; rfl
  · rw [z]; exact c0_z (by omega) (by omega)
  · rw [z]; exact c0_z (by omega) (by omega)
  · rw [z] at h; exact absurd h (by decide)
  · rw [z]; exact c0_z (by omega) (by omega)
  · rw [z]; exact c0_z (by omega) (by omega)
  · rw [z]; rfl
  · exact c0_z (by omega) (by omega)
  · exact c0_z (by omega) (by omega)
  · exact c0_z (by omega) (by omega)
  · exact c0_z (by omega) (by omega)
  · exact c0_z (by omega) (by omega)
  · exact c0_z (by omega) (by omega)
  · exact c0_z (by omega) (by omega)
  · exact c0_z (by omega) (by omega)
