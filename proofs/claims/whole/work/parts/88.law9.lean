/-! Reading a text: a law's line, whole. -/
section LAWSB
variable {T : Nat → Nat} {E t : Nat} {c0 m0 : Hp} {D D2 : Sp} {p s x a l f : Nat} {c m : Hp}
theorem FCl.law102 {f : Nat} (h : FCl t c0 f s c) (v : Int32) : f7_readLaw_102 v c = some c := by
  simp only [f7_readLaw_102, h.ne, if_false]
theorem l3c : ∀ l, l < 3 → l = 0 ∨ l = 1 ∨ l = 2 := fun l hl => by omega
theorem lawname (tk : tok (c.1 1 5) (c.1 1 6) (m.1 0 8) (m.1 0 9) x a) : (∃ l, l < 3 ∧ m.1 0 8 = 1 ∧ m.1 0 9 = nI (7 + l) ∧ f8_isWord 777046016 c = some (if l = 0 then 1 else 0) ∧ f8_isWord 653969408 c = some (if l = 1 then 1 else 0) ∧ f8_isWord 109103520 c = some (if l = 2 then 1 else 0)) ∨ (f8_isWord 777046016 c = some 0 ∧ f8_isWord 653969408 c = some 0 ∧ f8_isWord 109103520 c = some 0 ∧ (¬ m.1 0 8 = 1 ∨ ∃ w, w < 20 ∧ m.1 0 8 = 1 ∧ m.1 0 9 = nI w ∧ (w < 7 ∨ 9 < w))) := by
  have w7 : f8_isWord 777046016 c = _ := (word_eq tk (w0 := 7) (by decide)).1
  have w8 : f8_isWord 653969408 c = _ := (word_eq tk (w0 := 8) (by decide)).1
  have w9 : f8_isWord 109103520 c = _ := (word_eq tk (w0 := 9) (by decide)).1
  by_cases q8 : m.1 0 8 = 1
  · have qx : x = 1 := by
      rcases x with _ | _ | _ | _ | _ | _ | _
      · rw [tk.2] at q8; exact absurd q8 (by decide)
      · rfl
      · rw [tk.2.1] at q8; exact absurd q8 (by decide)
      · rw [tk.2.1] at q8; exact absurd q8 (by decide)
      · rw [tk.2.1] at q8; exact absurd q8 (by decide)
      · rcases tk.2 with u | ⟨u, -⟩ <;> rw [u] at q8 <;> exact absurd q8 (by decide)
      · exact tk.elim
    subst qx
    obtain ⟨t1, t2, t3, t4⟩ := tk
    rcases t4 with ⟨w, hw, ew, u1, u2⟩ | ⟨-, u1, -⟩
    · have c7 : (1 = 1 ∧ a = langN 7) ↔ w = 7 := ⟨fun z => lang_inj w hw 7 (by decide) (ew.symm.trans z.2), fun z => ⟨rfl, by rw [ew, z]⟩⟩
      have c8 : (1 = 1 ∧ a = langN 8) ↔ w = 8 := ⟨fun z => lang_inj w hw 8 (by decide) (ew.symm.trans z.2), fun z => ⟨rfl, by rw [ew, z]⟩⟩
      have c9 : (1 = 1 ∧ a = langN 9) ↔ w = 9 := ⟨fun z => lang_inj w hw 9 (by decide) (ew.symm.trans z.2), fun z => ⟨rfl, by rw [ew, z]⟩⟩
      have w7 : f8_isWord 777046016 c = some (if w = 7 then 1 else 0) := by
        rw [w7]
        by_cases y : w = 7
        · rw [if_pos y, if_pos (c7.mpr y)]
        · rw [if_neg y, if_neg (fun z => y (c7.mp z))]
      have w8 : f8_isWord 653969408 c = some (if w = 8 then 1 else 0) := by
        rw [w8]
        by_cases y : w = 8
        · rw [if_pos y, if_pos (c8.mpr y)]
        · rw [if_neg y, if_neg (fun z => y (c8.mp z))]
      have w9 : f8_isWord 109103520 c = some (if w = 9 then 1 else 0) := by
        rw [w9]
        by_cases y : w = 9
        · rw [if_pos y, if_pos (c9.mpr y)]
        · rw [if_neg y, if_neg (fun z => y (c9.mp z))]
      clear c7 c8 c9 ew t1 t2 t3
      by_cases z : 7 ≤ w ∧ w ≤ 9
      · refine Or.inl ⟨w - 7, by omega, q8, by rw [u2]; congr 1; omega, ?_, ?_, ?_⟩
        · rw [w7]
          by_cases y : w = 7
          · rw [if_pos y, if_pos (by omega)]
          · rw [if_neg y, if_neg (by omega)]
        · rw [w8]
          by_cases y : w = 8
          · rw [if_pos y, if_pos (by omega)]
          · rw [if_neg y, if_neg (by omega)]
        · rw [w9]
          by_cases y : w = 9
          · rw [if_pos y, if_pos (by omega)]
          · rw [if_neg y, if_neg (by omega)]
      · rw [if_neg (by omega)] at w7 w8 w9
        exact Or.inr ⟨w7, w8, w9, Or.inr ⟨w, hw, u1, u2, by omega⟩⟩
    · rw [u1] at q8; exact absurd q8 (by decide)
  · refine Or.inr ⟨?_, ?_, ?_, Or.inl q8⟩
    · rw [w7, if_neg]
      rintro ⟨rfl, e⟩
      rcases tk.2.2.2 with ⟨w, -, -, u1, -⟩ | ⟨hn, -⟩
      · exact q8 u1
      · exact hn 7 (by decide) e
    · rw [w8, if_neg]
      rintro ⟨rfl, e⟩
      rcases tk.2.2.2 with ⟨w, -, -, u1, -⟩ | ⟨hn, -⟩
      · exact q8 u1
      · exact hn 8 (by decide) e
    · rw [w9, if_neg]
      rintro ⟨rfl, e⟩
      rcases tk.2.2.2 with ⟨w, -, -, u1, -⟩ | ⟨hn, -⟩
      · exact q8 u1
      · exact hn 9 (by decide) e
theorem law_e0 {c1 : Hp} (es : f7_step c = some c1) (w7 : f8_isWord 777046016 c1 = some 1) : f7_readLaw c = f7_readLaw_53 0 c1 := by
  unfold f7_readLaw
  rw [es, Option.bind_some, w7, Option.bind_some, if_neg (by decide)]
theorem law_e1 {c1 : Hp} (es : f7_step c = some c1) (w7 : f8_isWord 777046016 c1 = some 0) (w8 : f8_isWord 653969408 c1 = some 1) : f7_readLaw c = f7_readLaw_53 1 c1 := by
  unfold f7_readLaw
  rw [es, Option.bind_some, w7, Option.bind_some, if_pos rfl, w8, Option.bind_some, if_neg (by decide)]
theorem law_e2 {c1 : Hp} (es : f7_step c = some c1) (w7 : f8_isWord 777046016 c1 = some 0) (w8 : f8_isWord 653969408 c1 = some 0) (w9 : f8_isWord 109103520 c1 = some 1) : f7_readLaw c = f7_readLaw_53 2 c1 := by
  unfold f7_readLaw
  rw [es, Option.bind_some, w7, Option.bind_some, if_pos rfl, w8, Option.bind_some, if_pos rfl, w9, Option.bind_some, if_neg (by decide)]
theorem law_e3 {c1 : Hp} (es : f7_step c = some c1) (w7 : f8_isWord 777046016 c1 = some 0) (w8 : f8_isWord 653969408 c1 = some 0) (w9 : f8_isWord 109103520 c1 = some 0) : f7_readLaw c = f7_readLaw_53 (-1) c1 := by
  unfold f7_readLaw
  rw [es, Option.bind_some, w7, Option.bind_some, if_pos rfl, w8, Option.bind_some, if_pos rfl, w9, Option.bind_some, if_pos rfl]
theorem law_eR {m1 : Hp} {l : Nat} (hl : l < 3) (e2 : f12_token m = some m1) (u1 : m1.1 0 8 = 1) (u2 : m1.1 0 9 = nI (7 + l)) : lwR m = if m1.1 14 (3 + l) = 0 then ((f12_token (wI m1 14 (3 + l) 1)).bind fun h44 => (f12_sumRead (wI h44 15 (3 + l) (h44.1 0 20))).bind fun (r47, h48) => some (r47, wI h48 16 (3 + l) (h48.1 0 20))) else ((f12_wrong 3 m1).bind fun (r51, h52) => gd (bz r51) <| some (r51, h52)) := by
  have g7 : ¬ nI (7 + l) < 7 := by rw [lit]; exact nI_nlt (by omega) (by omega)
  have g9 : nI (7 + l) ≤ 9 := by rw [lit]; exact nI_le (by omega) (by omega)
  have g3 : (3 + nI (7 + l) - 7 : Int32) = nI (3 + l) := by
    rw [show (3 : Int32) = nI 3 from rfl, show (7 : Int32) = nI 7 from rfl, nI_add, pk_sub (by omega), show 3 + (7 + l) - 7 = 3 + l by omega]
  simp only [lwR, e2, Option.bind_some, u1, if_true, u2, g7, if_false, g9, lt, g3, gd, inb_t (show 3 + l < 6 by omega) (by omega), ix_nI (show 3 + l < 2 ^ 31 by omega)]
end LAWSB
