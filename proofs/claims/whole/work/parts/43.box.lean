/-! One box, one year: the class. -/
/-- a box by itself: 1 slow, 2 spring, 3 false, 4 missing, 6 stolen, 8 played, 9 laughter; its pins beside -/
abbrev Bx : Type := Nat → Nat
def wfB (Y : Nat) (B P : Bx) : Prop := (1 ≤ B 1 ∧ B 1 ≤ 9) ∧ B 2 ≤ 99 ∧ B 3 ≤ 99 ∧ B 4 < 1024 ∧ B 6 ≤ 1 ∧ B 8 ≤ Y ∧ B 9 ≤ 99 * Y ∧ ∀ k, k < 8 → P k ≤ 9
def pcN (P : Bx) : Nat := cnt (fun k => decide (0 < P k)) 8
theorem pcN_le (P : Bx) : pcN P ≤ 8 := cnt_le _ 8
def bxC (B P : Bx) (p : Nat) (c : Hp) : Prop := c.1 p 2 = nI (B 1) ∧ c.1 p 3 = nI (pcN P) ∧ c.1 p 5 = nI (B 2) ∧ c.1 p 6 = nI (B 3) ∧ c.1 p 7 = nI (B 8) ∧ c.1 p 9 = nI (B 4) ∧ c.1 p 10 = nI (B 6) ∧ ∀ k, k < 8 → c.1 (p + 1) k = nI (P k)
def nmB (B : Bx) (pc y : Nat) (k : Nat) : Int64 := (nI (if k = 0 then B 2 else if k = 1 then B 1 else if k = 2 then pc else if k = 3 then B 3 else if k = 4 then popN (B 4) else if k = 5 then B 8 else y)).toInt64
theorem nmB_bnd (B : Bx) (pc y k : Nat) : bnd (nmB B pc y k) := bndI _
theorem envC_of {B P : Bx} {p y : Nat} {c : Hp} (h4 : B 4 < 1024) (h : bxC B P p c) : envC p (nI y) (nmB B (pcN P) y) c := by
  obtain ⟨h1, h2, h3, h5, h6, h7, h8, h9⟩ := h
  intro k hk
  have hc : k = 0 ∨ k = 1 ∨ k = 2 ∨ k = 3 ∨ k = 4 ∨ k = 5 ∨ k = 6 := by omega
  rcases hc with rfl | rfl | rfl | rfl | rfl | rfl | rfl
  all_goals (simp only [f5_nameOf, nmB, Nat.reduceAdd, Nat.reduceEqDiff, if_true, if_false]; simp (disch := omega) only [lit, nI_eq, Nat.reduceEqDiff, if_true, if_false])
  · rw [h3]
  · rw [h1]
  · rw [h2]
  · rw [h5]
  · rw [h7, bitCount_all _ h4]; rfl
  · rw [h6]
/-- what a law is worth by what it hangs on -/
def evP (S : Sp) (l : Nat) (nm : Nat → Int64) (r : Int64) : Prop := ∃ t p y c c', lawC S t c ∧ envC p y nm c ∧ f5_worth (t + 14) (nI l) p y c = some (r, c')
noncomputable def evL (S : Sp) (l : Nat) (nm : Nat → Int64) : Int64 := Classical.epsilon (evP S l nm)
theorem evP_one {S : Sp} {l : Nat} {nm : Nat → Int64} {m : Hp} {r1 r2 : Int64} (w : wfLaws S) (hM : lawM S m) (hl : l < 3) (hB : ∀ j, j < 7 → bnd (nm j)) (h1 : evP S l nm r1) (h2 : evP S l nm r2) : r1 = r2 := by
  obtain ⟨t1, p1, y1, c1, c1', a1, a2, a3⟩ := h1
  obtain ⟨t2, p2, y2, c2, c2', b1, b2, b3⟩ := h2
  by_cases ht : S 42 l < S 43 l
  · have hM2 : lawM S (m.1, (fun q j => if q = 22 then nm j else m.2.1 q j), m.2.2) := hM
    obtain ⟨r, c', r', m', e1, e2, -, -, e3⟩ := law_eval w a1 hM2 hl a2 (fun j _ => (if_pos rfl : (if (22 : Nat) = 22 then nm j else m.2.1 22 j) = nm j)) hB ht
    obtain ⟨u, d', u', n', f1, f2, -, -, f3⟩ := law_eval w b1 hM2 hl b2 (fun j _ => (if_pos rfl : (if (22 : Nat) = 22 then nm j else m.2.1 22 j) = nm j)) hB ht
    rw [a3] at e1; cases e1
    rw [b3] at f1; cases f1
    rw [e2] at f2; cases f2
    rcases e3 with ⟨z1, z2, -⟩ | ⟨z1, z2⟩
    · rcases f3 with ⟨z3, z4, -⟩ | ⟨z3, z4⟩
      · rw [← z2, ← z4]
      · rw [z1] at z3; exact absurd z3 (by decide)
    · rcases f3 with ⟨z3, z4, -⟩ | ⟨z3, z4⟩
      · rw [z1] at z3; exact absurd z3 (by decide)
      · rw [z2, z4]
  · rw [law_no w a1 hl ht] at a3
    rw [law_no w b1 hl ht] at b3
    cases a3; cases b3; rfl
theorem evL_of {S : Sp} {l : Nat} {nm : Nat → Int64} {m : Hp} {r : Int64} (w : wfLaws S) (hM : lawM S m) (hl : l < 3) (hB : ∀ j, j < 7 → bnd (nm j)) (h : evP S l nm r) : evL S l nm = r := evP_one w hM hl hB (Classical.epsilon_spec ⟨r, h⟩) h
theorem worthC {S : Sp} {t p l : Nat} {y : Int32} {nm : Nat → Int64} {c m : Hp} (w : wfLaws S) (hC : lawC S t c) (hM : lawM S m) (hl : l < 3) (hE : envC p y nm c) (hB : ∀ j, j < 7 → bnd (nm j)) : ∃ c', f5_worth (t + 14) (nI l) p y c = some (evL S l nm, c') ∧ sC c c' ∧ (evL S l nm = -9223372036854775808 ∨ (S 42 l < S 43 l ∧ bnd (evL S l nm))) := by
  by_cases ht : S 42 l < S 43 l
  · have hM2 : lawM S (m.1, (fun q j => if q = 22 then nm j else m.2.1 q j), m.2.2) := hM
    obtain ⟨r, c', r', m', e1, e2, e4, -, e3⟩ := law_eval w hC hM2 hl hE (fun j _ => (if_pos rfl : (if (22 : Nat) = 22 then nm j else m.2.1 22 j) = nm j)) hB ht
    have e : evL S l nm = r := evL_of w hM hl hB ⟨t, p, y, c, c', hC, hE, e1⟩
    refine ⟨c', by rw [e]; exact e1, e4, ?_⟩
    rcases e3 with ⟨z1, z2, z3⟩ | ⟨z1, z2⟩
    · exact Or.inr ⟨ht, by rw [e]; exact z3⟩
    · exact Or.inl (by rw [e]; exact z2)
  · have e1 := law_no (p := p) (y := y) w hC hl ht
    have e : evL S l nm = -9223372036854775808 := evL_of w hM hl hB ⟨t, p, y, c, c, hC, hE, e1⟩
    exact ⟨c, by rw [e]; exact e1, sC.rf, Or.inl e⟩
/-- a value held between 0 and most; a law's bound value, or what stands without it -/
def hld (v : Int64) (most : Nat) : Nat := if v < 0 then 0 else if lN most < v then most else v.toInt.toNat
noncomputable def bl (v : Int64) (without most : Nat) : Nat := if v = -9223372036854775808 then without else hld v most
theorem hld_le (v : Int64) (most : Nat) (hm : most < 2 ^ 31) : hld v most ≤ most := by
  unfold hld
  split
  · omega
  · rename_i h
    split
    · exact Nat.le_refl _
    · rename_i h2
      obtain ⟨k, hk, rfl⟩ := pk_lOf h
      rw [pk_lLT (by omega) hk] at h2
      rw [pk_lT hk]
      omega
theorem hold_eq (v : Int64) {most : Nat} (hm : most < 2 ^ 31) : f0_hold v (nI most) = some (nI (hld v most)) := by
  unfold f0_hold hld
  rw [nI_l hm]
  by_cases h : v < 0
  · have h2 : v < lN most := by
      rw [Int64.lt_iff_toInt_lt] at h ⊢
      rw [lN_toInt hm]
      rw [Int64.toInt_zero] at h
      omega
    rw [if_pos h2, if_pos h, if_pos h]; rfl
  · rw [if_neg h]
    obtain ⟨k, hk, rfl⟩ := pk_lOf h
    by_cases h2 : lN most < lN k
    · have h3 : ¬ lN k < lN most := by rw [pk_lLT hk (by omega)]; rw [pk_lLT (by omega) hk] at h2; omega
      have h4 : ¬ lN most < 0 := by
        rw [Int64.lt_iff_toInt_lt, lN_toInt hm, Int64.toInt_zero]; omega
      rw [if_neg h3, if_neg h4, if_pos h2, lN_i]
    · rw [if_neg h2, pk_lT hk]
      rw [pk_lLT (by omega) hk] at h2
      by_cases h3 : lN k < lN most
      · rw [if_pos h3, if_neg h, lN_i]; rfl
      · rw [pk_lLT hk (by omega)] at h3
        have : k = most := by omega
        subst this
        rw [ite_self, if_neg h, lN_i]; rfl
/-- a box behind it is let go, behind damp, behind a year -/
noncomputable def vL (S : Sp) (l : Nat) (B P : Bx) (y : Nat) : Int64 := evL S l (nmB B (pcN P) y)
def hmB (B P : Bx) : Nat := cnt (fun k => decide (0 < hN (P k) (B 3) (B 4))) 8
noncomputable def letB (S : Sp) (y : Nat) (P B : Bx) : Bx := fun x =>
  if x = 8 then B 8 + 1
  else if x = 9 then B 9 + bl (vL S 2 (fun z => if z = 8 then B 8 + 1 else B z) P y) (hmB B P) 99
  else if x = 2 then B 2 - bl (vL S 0 (fun z => if z = 8 then B 8 + 1 else B z) P y) 1 9
  else B x
noncomputable def growB (S : Sp) (y : Nat) (P B : Bx) : Bx := fun x => if x = 3 then min 99 (B 3 + bl (vL S 1 B P y) 1 9) else B x
def goB (B : Bx) : Bool := decide (B 6 = 0 ∧ 0 < B 2)
noncomputable def yrB (S : Sp) (y : Nat) (dmp : Bool) (P B : Bx) : Bx := if dmp then growB S y P (if goB B then letB S y P B else B) else (if goB B then letB S y P B else B)
theorem bl_le {v : Int64} {a most : Nat} (hm : most < 2 ^ 31) (h : a ≤ most) : bl v a most ≤ most := by
  unfold bl
  split
  · exact h
  · exact hld_le v most hm
theorem hmB_le (B P : Bx) : hmB B P ≤ 8 := cnt_le _ 8
theorem wf_let {S : Sp} {y Y : Nat} {B P : Bx} (w : wfB Y B P) : wfB (Y + 1) (letB S y P B) P := by
  obtain ⟨w1, w2, w3, w4, w6, w8, w9, wp⟩ := w
  have h1 := bl_le (v := vL S 2 (fun z => if z = 8 then B 8 + 1 else B z) P y) (a := hmB B P) (most := 99) (by omega) (by have := hmB_le B P; omega)
  refine ⟨?_, ?_, ?_, ?_, ?_, ?_, ?_, wp⟩
  · exact w1
  · show B 2 - _ ≤ 99; omega
  · exact w3
  · exact w4
  · exact w6
  · show B 8 + 1 ≤ Y + 1; omega
  · show B 9 + _ ≤ 99 * (Y + 1); omega
theorem wf_grow {S : Sp} {y Y : Nat} {B P : Bx} (w : wfB Y B P) : wfB Y (growB S y P B) P := by
  obtain ⟨w1, w2, w3, w4, w6, w8, w9, wp⟩ := w
  refine ⟨w1, w2, ?_, w4, w6, w8, w9, wp⟩
  show min 99 _ ≤ 99
  omega
theorem wfB.mono {Y Y' : Nat} {B P : Bx} (w : wfB Y B P) (h : Y ≤ Y') : wfB Y' B P := by
  obtain ⟨w1, w2, w3, w4, w6, w8, w9, wp⟩ := w
  exact ⟨w1, w2, w3, w4, w6, by omega, by omega, wp⟩
theorem wf_yr {S : Sp} {y Y : Nat} {d : Bool} {B P : Bx} (w : wfB Y B P) : wfB (Y + 1) (yrB S y d P B) P := by
  have h1 : wfB (Y + 1) (if goB B then letB S y P B else B) P := by
    split
    · exact wf_let w
    · exact w.mono (by omega)
  unfold yrB
  split
  · exact wf_grow h1
  · exact h1
