/-! Reading a text: what a token is to a law. -/
section LAWS4
variable {T : Nat → Nat} {E t : Nat} {c0 m0 : Hp} {D D2 : Sp} {p s x a l f : Nat} {c m : Hp} {st H : List Nat} {wn may : Nat}
theorem lang_inj : ∀ w, w < 20 → ∀ v, v < 20 → langN w = langN v → w = v := by decide
theorem word_eq (tk : tok (c.1 1 5) (c.1 1 6) (m.1 0 8) (m.1 0 9) x a) {w0 : Nat} (hw : w0 < 20) : f8_isWord (nI (langN w0)) c = some (if x = 1 ∧ a = langN w0 then 1 else 0) ∧ f12_isKey (nI w0) m = some (if x = 1 ∧ a = langN w0 then 1 else 0) := by
  have nc : ¬ c.1 1 5 = 1 → f8_isWord (nI (langN w0)) c = some 0 := fun h => by simp only [f8_isWord, h, if_false, f8_isWord_20]
  have nm : ¬ m.1 0 8 = 1 → f12_isKey (nI w0) m = some 0 := fun h => by simp only [f12_isKey, h, if_false, f12_isKey_20]
  by_cases x1 : x = 1
  · subst x1
    obtain ⟨t1, t2, t3, t4⟩ := tk
    have lw : langN w0 < 2 ^ 31 := (lang_all w0 hw).2.2.2.2.2.2.1
    have ea : (nI a = nI (langN w0)) = (a = langN w0) := propext (nI_eq t3 lw)
    have e1 : f8_isWord (nI (langN w0)) c = some (if 1 = 1 ∧ a = langN w0 then 1 else 0) := by
      simp only [f8_isWord, t1, if_true, t2, ea, f8_isWord_20]
      by_cases q : a = langN w0
      · rw [if_pos q, if_pos ⟨trivial, q⟩]
      · rw [if_neg q, if_neg (fun z => q z.2)]
    refine ⟨e1, ?_⟩
    rcases t4 with ⟨w, hw', ew, u1, u2⟩ | ⟨hn, u1, u2⟩
    · have eq2 : (nI w = nI w0) = (w = w0) := propext (nI_eq (by omega) (by omega))
      simp only [f12_isKey, u1, if_true, u2, eq2, f12_isKey_20]
      by_cases q : w = w0
      · rw [if_pos q, if_pos ⟨trivial, by rw [ew, q]⟩]
      · rw [if_neg q, if_neg (fun z => q (lang_inj w hw' w0 hw (ew.symm.trans z.2)))]
    · rw [nm (by rw [u1]; decide), if_neg (fun z => hn w0 hw z.2)]
  · rw [if_neg (fun z => x1 z.1)]
    refine ⟨nc ?_, nm ?_⟩
    · rcases x with _ | _ | _ | _ | _ | _ | _
      · rw [tk.1]; decide
      · exact absurd rfl x1
      · rw [tk.1]; decide
      · rw [tk.1]; decide
      · rw [tk.1]; decide
      · rw [tk.1]; decide
      · exact tk.elim
    · rcases x with _ | _ | _ | _ | _ | _ | _
      · rw [tk.2]; decide
      · exact absurd rfl x1
      · rw [tk.2.1]; decide
      · rw [tk.2.1]; decide
      · rw [tk.2.1]; decide
      · rcases tk.2 with u | ⟨u, -⟩ <;> rw [u] <;> decide
      · exact tk.elim
def sgM (a : Nat) : Int32 := if a = 17 then 43 else if a = 18 then 45 else if a = 19 then 42 else if a = 20 then 47 else if a = 21 then 40 else if a = 22 then 41 else 59
theorem sg_all : ∀ a, a < 24 → 17 ≤ a → ∀ b, b < 24 → 17 ≤ b → (sgM a = sgM b ↔ a = b) := by decide
theorem sg_37 : ∀ a, a < 24 → 17 ≤ a → ¬ (37 : Int32) = sgM a := by decide
theorem tok3 {k v k' v' : Int32} (h : tok k v k' v' 3 a) : k = 3 ∧ k' = 4 ∧ v = nI a ∧ 17 ≤ a ∧ a < 24 ∧ v' = sgM a := by
  obtain ⟨h1, h2, h3, h4⟩ := h
  refine ⟨h1, h2, h3, ?_⟩
  rcases h4 with ⟨rfl, e⟩ | ⟨rfl, e⟩ | ⟨rfl, e⟩ | ⟨rfl, e⟩ | ⟨rfl, e⟩ | ⟨rfl, e⟩ | ⟨rfl, e⟩ <;> exact ⟨by omega, by omega, by rw [e]; rfl⟩
theorem sgn_eq (tk : tok (c.1 1 5) (c.1 1 6) (m.1 0 8) (m.1 0 9) x a) {b : Nat} (hb : 17 ≤ b) (hb2 : b < 24) : f8_isSign (nI b) c = some (if x = 3 ∧ a = b then 1 else 0) ∧ f12_isSign (sgM b) m = some (if x = 3 ∧ a = b then 1 else 0) := by
  have nc : ¬ c.1 1 5 = 3 → f8_isSign (nI b) c = some 0 := fun h => by simp only [f8_isSign, h, if_false, f8_isSign_20]
  have nm : ¬ m.1 0 8 = 4 → f12_isSign (sgM b) m = some 0 := fun h => by simp only [f12_isSign, h, if_false, f12_isSign_20]
  by_cases x1 : x = 3
  · subst x1
    obtain ⟨t1, t2, t3, t4, t5, t6⟩ := tok3 tk
    have ea : (nI a = nI b) = (a = b) := propext (nI_eq (by omega) (by omega))
    have eb : (sgM a = sgM b) = (a = b) := propext (sg_all a t5 t4 b hb2 hb)
    simp only [f8_isSign, f12_isSign, t1, t2, if_true, t3, t6, ea, eb, f8_isSign_20, f12_isSign_20]
    by_cases q : a = b
    · rw [if_pos q, if_pos ⟨trivial, q⟩]; exact ⟨rfl, rfl⟩
    · rw [if_neg q, if_neg (fun z => q z.2)]; exact ⟨rfl, rfl⟩
  · rw [if_neg (fun z => x1 z.1)]
    by_cases x4 : x = 4
    · subst x4
      obtain ⟨t1, t2, t3, t4, t5⟩ := tk
      refine ⟨?_, nm (by rw [t2]; decide)⟩
      have : ¬ nI (11 + a) = nI b := by rw [nI_eq (by omega) (by omega)]; omega
      simp only [f8_isSign, t1, if_true, t4, this, if_false, f8_isSign_20]
    · by_cases x5 : x = 5
      · subst x5
        refine ⟨nc (by rw [tk.1]; decide), ?_⟩
        rcases tk.2 with u | ⟨u, u'⟩
        · exact nm (by rw [u]; decide)
        · simp only [f12_isSign, u, if_true, u', sg_37 b hb2 hb, if_false, f12_isSign_20]
      · refine ⟨nc ?_, nm ?_⟩
        · rcases x with _ | _ | _ | _ | _ | _ | _
          · rw [tk.1]; decide
          · rw [tk.1]; decide
          · rw [tk.1]; decide
          · exact absurd rfl x1
          · exact absurd rfl x4
          · exact absurd rfl x5
          · exact tk.elim
        · rcases x with _ | _ | _ | _ | _ | _ | _
          · rw [tk.2]; decide
          · rcases tk.2.2.2 with ⟨w, -, -, u, -⟩ | ⟨-, u, -⟩ <;> rw [u] <;> decide
          · rw [tk.2.1]; decide
          · exact absurd rfl x1
          · exact absurd rfl x4
          · exact absurd rfl x5
          · exact tk.elim
/-- a joint of a law, or not -/
theorem jk (tk : tok (c.1 1 5) (c.1 1 6) (m.1 0 8) (m.1 0 9) x a) : (∃ k, 8 ≤ k ∧ k < 21 ∧ ¬ k = 10 ∧ f4_jointKind c = some (nI k) ∧ f12_signs_47 m = f12_signs_147 (nI (mk k)) m) ∨ (f4_jointKind c = some (-1) ∧ f12_signs_47 m = f12_signs_147 0 m) := by
  obtain ⟨o1, o2⟩ := word_eq tk (w0 := 11) (by omega)
  obtain ⟨a1, a2⟩ := word_eq tk (w0 := 10) (by omega)
  have o1 : f8_isWord 522190848 c = _ := o1
  have a1 : f8_isWord 48365568 c = _ := a1
  have o2 : f12_isKey 11 m = _ := o2
  have a2 : f12_isKey 10 m = _ := a2
  have s17 : f12_isSign 43 m = _ := (sgn_eq tk (b := 17) (by omega) (by omega)).2
  have s18 : f12_isSign 45 m = _ := (sgn_eq tk (b := 18) (by omega) (by omega)).2
  have s19 : f12_isSign 42 m = _ := (sgn_eq tk (b := 19) (by omega) (by omega)).2
  have s20 : f12_isSign 47 m = _ := (sgn_eq tk (b := 20) (by omega) (by omega)).2
  have ne : ¬ langN 10 = langN 11 := by decide
  by_cases q1 : x = 1 ∧ a = langN 11
  · have q2 : ¬ (x = 1 ∧ a = langN 10) := fun z => ne (z.2.symm.trans q1.2)
    rw [if_pos q1] at o1 o2
    rw [if_neg q2] at a1 a2
    refine Or.inl ⟨8, by omega, by omega, by omega, ?_, ?_⟩
    · simp only [f4_jointKind, o1, Option.bind_some, one_ne, if_false]; rfl
    · simp only [f12_signs_47, a2, o2, Option.bind_some, one_ne, if_false, if_true]; rfl
  · rw [if_neg q1] at o1 o2
    by_cases q2 : x = 1 ∧ a = langN 10
    · rw [if_pos q2] at a1 a2
      refine Or.inl ⟨9, by omega, by omega, by omega, ?_, ?_⟩
      · simp only [f4_jointKind, o1, a1, Option.bind_some, one_ne, if_false, if_true]; rfl
      · simp only [f12_signs_47, a2, Option.bind_some, one_ne, if_false]; rfl
    · rw [if_neg q2] at a1 a2
      have eC : f4_jointKind c = if c.1 1 5 = 3 then (if 20 < c.1 1 6 then some (-1) else some (c.1 1 6)) else some (-1) := by
        simp only [f4_jointKind, o1, a1, Option.bind_some, if_true, f4_jointKind_63]
      have eM : f12_signs_47 m = if m.1 0 8 = 5 then f12_signs_147 (5 + m.1 0 9) m else if x = 3 ∧ a = 17 then f12_signs_147 11 m else if x = 3 ∧ a = 18 then f12_signs_147 12 m else if x = 3 ∧ a = 19 then f12_signs_147 13 m else if x = 3 ∧ a = 20 then f12_signs_147 14 m else f12_signs_147 0 m := by
        simp only [f12_signs_47, o2, a2, Option.bind_some, if_true, s17, s18, s19, s20]
        by_cases z : m.1 0 8 = 5
        · rw [if_pos z, if_pos z]
        · rw [if_neg z, if_neg z]
          by_cases z1 : x = 3 ∧ a = 17
          · rw [if_pos z1, if_pos z1, if_neg (by decide)]
          · rw [if_neg z1, if_neg z1, if_pos rfl]
            by_cases z2 : x = 3 ∧ a = 18
            · rw [if_pos z2, if_pos z2, if_neg (by decide)]
            · rw [if_neg z2, if_neg z2, if_pos rfl]
              by_cases z3 : x = 3 ∧ a = 19
              · rw [if_pos z3, if_pos z3, if_neg (by decide)]
              · rw [if_neg z3, if_neg z3, if_pos rfl]
                by_cases z4 : x = 3 ∧ a = 20
                · rw [if_pos z4, if_pos z4, if_neg (by decide)]
                · rw [if_neg z4, if_neg z4, if_pos rfl]
      rw [eC, eM]
      by_cases x3 : x = 3
      · subst x3
        obtain ⟨t1, t2, t3, t4, t5, t6⟩ := tok3 tk
        rw [if_pos t1, t3, if_neg (show ¬ m.1 0 8 = 5 by rw [t2]; decide)]
        by_cases z : a ≤ 20
        · have g : ¬ (20 : Int32) < nI a := by rw [lit]; exact nI_nlt z (by omega)
          refine Or.inl ⟨a, by omega, by omega, by omega, if_neg g, ?_⟩
          have ca : a = 17 ∨ a = 18 ∨ a = 19 ∨ a = 20 := by omega
          rcases ca with rfl | rfl | rfl | rfl
          · rw [if_pos ⟨rfl, rfl⟩]; rfl
          · rw [if_neg (by omega), if_pos ⟨rfl, rfl⟩]; rfl
          · rw [if_neg (by omega), if_neg (by omega), if_pos ⟨rfl, rfl⟩]; rfl
          · rw [if_neg (by omega), if_neg (by omega), if_neg (by omega), if_pos ⟨rfl, rfl⟩]; rfl
        · have g : (20 : Int32) < nI a := by rw [lit]; exact nI_lt (by omega) (by omega)
          exact Or.inr ⟨if_pos g, by rw [if_neg (by omega), if_neg (by omega), if_neg (by omega), if_neg (by omega)]⟩
      · by_cases x4 : x = 4
        · subst x4
          obtain ⟨t1, t2, t3, t4, t5⟩ := tk
          have g : ¬ (20 : Int32) < nI (11 + a) := by rw [lit]; exact nI_nlt (by omega) (by omega)
          refine Or.inl ⟨11 + a, by omega, by omega, by omega, ?_, ?_⟩
          · rw [if_pos t1, t4, if_neg g]
          · rw [if_pos t2, t5, lit, nI_add]
            have : mk (11 + a) = 5 + a := by unfold mk; rw [if_neg (by omega), if_neg (by omega), if_neg (by omega), if_neg (by omega), if_neg (by omega)]; omega
            rw [this]
        · have nc : ¬ c.1 1 5 = 3 ∧ ¬ m.1 0 8 = 5 := by
            rcases x with _ | _ | _ | _ | _ | _ | _
            · rw [tk.1, tk.2]; decide
            · rw [tk.1]
              refine ⟨by decide, ?_⟩
              rcases tk.2.2.2 with ⟨w, -, -, u, -⟩ | ⟨-, u, -⟩ <;> rw [u] <;> decide
            · rw [tk.1, tk.2.1]; decide
            · exact absurd rfl x3
            · exact absurd rfl x4
            · rw [tk.1]
              refine ⟨by decide, ?_⟩
              rcases tk.2 with u | ⟨u, -⟩ <;> rw [u] <;> decide
            · exact tk.elim
          exact Or.inr ⟨if_neg nc.1, by rw [if_neg nc.2, if_neg (fun z => x3 z.1), if_neg (fun z => x3 z.1), if_neg (fun z => x3 z.1), if_neg (fun z => x3 z.1)]⟩
end LAWS4
