/-! tree. -/
theorem bset_all : ∀ x, x < 64 → ∀ k, k < 6 → tb x k = false → nI x ||| ((1 : Int32) <<< (nI k &&& 31)) = nI (x + 2 ^ k) ∧ x + 2 ^ k < 64 ∧ cnt (tb (x + 2 ^ k)) 6 = cnt (tb x) 6 + 1 ∧ ∀ j, j < 6 → tb (x + 2 ^ k) j = (decide (j = k) || tb x j) := by decide +kernel
theorem bfree_all : ∀ N, N ≤ 6 → ∀ x, x < 64 → (∀ j, j < 6 → tb x j = true → j < N) → cnt (tb x) 6 < N → ∃ j, j < N ∧ tb x j = false := by decide +kernel
def fm (H : Nat → Nat → Nat) (x b : Nat) : Nat → Nat
  | 0 => 8
  | n + 1 => if tb x n = true ∧ 8 - alk H n b 0 < fm H x b n then 8 - alk H n b 0 else fm H x b n
theorem fm_le (H : Nat → Nat → Nat) (x b : Nat) : ∀ n, fm H x b n ≤ 8
  | 0 => Nat.le_refl 8
  | n + 1 => by
    have := fm_le H x b n
    unfold fm
    split <;> omega
theorem eight_sub {k : Nat} (h : k ≤ 8) : (8 - nI k : Int32) = nI (8 - k) := by rw [lit]; exact pk_sub h
theorem fewest_eq {S : Sp} {c : Hp} {x b : Nat} (w : wfNow S) (hC : nowC S c) (hE : ear S c) (hx : x < 64) (hb : b < S 0 0) : f11_fewestUnlike (nI x) (nI b) c = some (nI (fm (hS S) x b (S 0 0))) := by
  have hn := w.1
  unfold f11_fewestUnlike f11_fewestUnlike_6
  refine lp_for1 (f := fun z : Int32 × Int32 => f11_fewestUnlike_6_s (nI x) (nI b) z.1 z.2 c) (fun i => (nI (fm (hS S) x b i), nI i)) (S 0 0) (fun i hi => ?_) ?_
  · have ea := alikeByC (t := 0) hE hn hi hb (by omega)
    have h8 := alk_le (hS S) i b 0
    have hf := fm_le (hS S) x b i
    simp only [f11_fewestUnlike_6_s, f11_fewestUnlike_47, lt, hC.1, nI_ge hi (show S 0 0 < 2 ^ 31 by omega), if_false, bit1 (show x < 2 ^ 31 by omega) (show i < 32 by omega), show f2_alikeBy (nI i) (nI b) 0 c = _ from ea, Option.bind_some, eight_sub h8, nI_1, fm]
    simp (disch := omega) only [nI_ltI]
    by_cases q : tb x i = true
    · by_cases q2 : 8 - alk (hS S) i b 0 < fm (hS S) x b i
      · simp only [q, q2, if_true, true_and]
      · simp only [q, q2, if_true, if_false, true_and]
    · simp only [q, Bool.false_eq_true, if_false, false_and]
  · simp only [f11_fewestUnlike_6_s, hC.1, nI_le (Nat.le_refl (S 0 0)) (show S 0 0 < 2 ^ 31 by omega), if_true]
def eI : Option Nat → Int32
  | none => -1
  | some j => nI j
def nx (F : Nat → Nat) (o : Option Nat) (b : Nat) : Option Nat := match o with
  | none => some b
  | some j => if F b < F j then some b else some j
def nb (F : Nat → Nat) (x : Nat) : Nat → Option Nat
  | 0 => none
  | i + 1 => if tb x i = true then nb F x i else nx F (nb F x i) i
theorem nb_in {F : Nat → Nat} {x : Nat} : ∀ {i j : Nat}, nb F x i = some j → j < i ∧ tb x j = false
  | 0, j, h => by cases h
  | i + 1, j, h => by
    unfold nb at h
    by_cases q : tb x i = true
    · rw [if_pos q] at h
      have := nb_in h
      exact ⟨by omega, this.2⟩
    · rw [if_neg q] at h
      have q' : tb x i = false := by simpa using q
      cases e : nb F x i with
      | none =>
        rw [e] at h
        have h : some i = some j := h
        cases h
        exact ⟨by omega, q'⟩
      | some k =>
        rw [e] at h
        have h : (if F i < F k then some i else some k) = some j := h
        have ih := nb_in e
        by_cases z : F i < F k
        · rw [if_pos z] at h; cases h; exact ⟨by omega, q'⟩
        · rw [if_neg z] at h; cases h; exact ⟨by omega, ih.2⟩
theorem nb_some {F : Nat → Nat} {x : Nat} : ∀ {i j : Nat}, j < i → tb x j = false → ∃ k, nb F x i = some k
  | 0, j, h, _ => by omega
  | i + 1, j, h, hf => by
    unfold nb
    by_cases q : tb x i = true
    · rw [if_pos q]
      have : j ≠ i := fun e => by rw [e, q] at hf; cases hf
      exact nb_some (show j < i by omega) hf
    · rw [if_neg q]
      unfold nx
      split
      · exact ⟨_, rfl⟩
      · split
        · exact ⟨_, rfl⟩
        · exact ⟨_, rfl⟩
theorem m1_ne {j : Nat} (h : j < 2 ^ 31) : ¬ nI j = (-1 : Int32) := by
  intro q
  have := congrArg Int32.toInt q
  rw [nI_toInt h] at this
  exact absurd this (by rw [show ((-1 : Int32)).toInt = -1 from by decide]; omega)
theorem bit0 {x p : Nat} (hx : x < 2 ^ 31) (hp : p < 32) : ((nI x >>> (nI p &&& 31)) &&& 1 = 0) ↔ ¬ tb x p = true := by
  rw [bit_nI hx hp]
  simp (disch := omega) only [lit, show (0 : Int32) = nI 0 from rfl, nI_eq]
  unfold tb
  rw [decide_eq_true_eq]
  omega
theorem nearest_eq {S : Sp} {c : Hp} {x : Nat} (w : wfNow S) (hC : nowC S c) (hE : ear S c) (hx : x < 64) : f11_nearestTo (nI x) c = some (eI (nb (fun b => fm (hS S) x b (S 0 0)) x (S 0 0))) := by
  have hn := w.1
  unfold f11_nearestTo f11_nearestTo_4
  refine lp_for1 (f := fun z : Int32 × Int32 => f11_nearestTo_4_s (nI x) z.1 z.2 c) (fun i => (eI (nb (fun b => fm (hS S) x b (S 0 0)) x i), nI i)) (S 0 0) (fun i hi => ?_) ?_
  · simp only [f11_nearestTo_4_s, f11_nearestTo_43, f11_nearestTo_45, hC.1, nI_ge hi (show S 0 0 < 2 ^ 31 by omega), if_false, bit0 (show x < 2 ^ 31 by omega) (show i < 32 by omega), nb, fewest_eq w hC hE hx hi, Option.bind_some, nI_1]
    by_cases q : tb x i = true
    · simp only [q, if_true, not_true, if_false]
    · simp only [q, Bool.false_eq_true, not_false_eq_true, if_true, if_false]
      cases e : nb (fun b => fm (hS S) x b (S 0 0)) x i with
      | none => simp only [eI, if_true, nx]
      | some j =>
        have hj := (nb_in e).1
        have f1 := fm_le (hS S) x i (S 0 0)
        have f2 := fm_le (hS S) x j (S 0 0)
        simp only [eI, m1_ne (show j < 2 ^ 31 by omega), if_false, fewest_eq w hC hE hx (show j < S 0 0 by omega), Option.bind_some, nx]
        simp (disch := omega) only [nI_leI]
        by_cases z : fm (hS S) x i (S 0 0) < fm (hS S) x j (S 0 0)
        · rw [if_neg (by omega), if_pos z]
        · rw [if_pos (by omega), if_neg z]
  · simp only [f11_nearestTo_4_s, hC.1, nI_le (Nat.le_refl (S 0 0)) (show S 0 0 < 2 ^ 31 by omega), if_true]
def eL (F : Nat → Nat) : Option Nat → Int32
  | none => 0
  | some j => nI (F j)
theorem tree_in {S : Sp} {m : Hp} {x b : Nat} (w : wfNow S) (hM : nowM S m) (hp : m.1 0 61 = 0) (hx : x < 64) (hb : b < S 0 0) (h0 : tb x 0 = true) (v n : Int32) (o : Option Nat) (ho : ∀ j, o = some j → j < 6) : f12_tree_56 (nI x) v n (eI o) (eL (fun b => fm (hS S) x b (S 0 0)) o) (nI b) 0 m = some (.inl (eI (nx (fun b => fm (hS S) x b (S 0 0)) o b), eL (fun b => fm (hS S) x b (S 0 0)) (nx (fun b => fm (hS S) x b (S 0 0)) o b), nI (b + 1))) := by
  have hn := w.1
  unfold f12_tree_56
  cases o with
  | none =>
    refine lp_for1 (f := fun z : Int32 × Int32 × Int32 => f12_tree_56_s (nI x) v n z.1 z.2.1 (nI b) z.2.2 m) (fun a => (if a = 0 then (-1 : Int32) else nI b, if a = 0 then (0 : Int32) else nI (fm (hS S) x b a), nI a)) (S 0 0) (fun i hi => ?_) ?_
    · have ea := alikeByM (t := 0) w hM hp hi hb (by omega)
      have h8 := alk_le (hS S) i b 0
      have hf := fm_le (hS S) x b i
      simp only [f12_tree_56_s, f12_tree_103, f12_tree_111, hM.1, nI_ge hi (show S 0 0 < 2 ^ 31 by omega), if_false, isOf_eq, bit1 (show x < 2 ^ 31 by omega) (show i < 32 by omega), show f12_alikeBy (nI i) (nI b) 0 m = _ from ea, Option.bind_some, eight_sub h8, nI_1, fm]
      by_cases z : i = 0
      · subst z
        simp only [h0, if_true, one_ne, if_false, show ((-1 : Int32) < 0) = True from by decide, fm, true_and, show ¬ (0 + 1 = 0) from by omega]
        congr 4
        split
        · rfl
        · congr 1; omega
      · simp only [z, if_false, show ¬ i + 1 = 0 from by omega, nI_pos (show b < 2 ^ 31 by omega)]
        simp (disch := omega) only [nI_ltI]
        by_cases q : tb x i = true
        · by_cases q2 : 8 - alk (hS S) i b 0 < fm (hS S) x b i
          · simp only [q, q2, if_true, true_and, one_ne, if_false]
          · simp only [q, q2, if_true, if_false, true_and, one_ne]
        · simp only [q, Bool.false_eq_true, if_false, false_and, if_true]
    · simp only [f12_tree_56_s, f12_tree_117, hM.1, nI_le (Nat.le_refl (S 0 0)) (show S 0 0 < 2 ^ 31 by omega), if_true, Option.map_some, nx, eI, eL, show ¬ S 0 0 = 0 from by omega, if_false, nI_1]
  | some j =>
    have hj := ho j rfl
    have hF := fm_le (hS S) x j (S 0 0)
    have st : (eI (some j), eL (fun b => fm (hS S) x b (S 0 0)) (some j), (0 : Int32)) = (if fm (hS S) x b 0 < fm (hS S) x j (S 0 0) then nI b else nI j, if fm (hS S) x b 0 < fm (hS S) x j (S 0 0) then nI (fm (hS S) x b 0) else nI (fm (hS S) x j (S 0 0)), nI 0) := by
      have h0' : fm (hS S) x b 0 = 8 := rfl
      rw [if_neg (by omega), if_neg (by omega)]; rfl
    rw [st]
    refine lp_for1 (f := fun z : Int32 × Int32 × Int32 => f12_tree_56_s (nI x) v n z.1 z.2.1 (nI b) z.2.2 m) (fun a => (if fm (hS S) x b a < fm (hS S) x j (S 0 0) then nI b else nI j, if fm (hS S) x b a < fm (hS S) x j (S 0 0) then nI (fm (hS S) x b a) else nI (fm (hS S) x j (S 0 0)), nI a)) (S 0 0) (fun i hi => ?_) ?_
    · have ea := alikeByM (t := 0) w hM hp hi hb (by omega)
      have h8 := alk_le (hS S) i b 0
      have hf := fm_le (hS S) x b i
      have np : ¬ (if fm (hS S) x b i < fm (hS S) x j (S 0 0) then nI b else nI j) < 0 := by
        split
        · exact nI_pos (by omega)
        · exact nI_pos (by omega)
      simp only [f12_tree_56_s, f12_tree_103, f12_tree_111, hM.1, nI_ge hi (show S 0 0 < 2 ^ 31 by omega), if_false, isOf_eq, bit1 (show x < 2 ^ 31 by omega) (show i < 32 by omega), show f12_alikeBy (nI i) (nI b) 0 m = _ from ea, Option.bind_some, eight_sub h8, nI_1, np, fm]
      by_cases q : tb x i = true
      · simp only [q, if_true, true_and, one_ne, if_false]
        by_cases q3 : fm (hS S) x b i < fm (hS S) x j (S 0 0)
        · simp only [q3, if_true]
          simp (disch := omega) only [nI_ltI]
          by_cases q2 : 8 - alk (hS S) i b 0 < fm (hS S) x b i
          · simp only [q2, if_true, show 8 - alk (hS S) i b 0 < fm (hS S) x j (S 0 0) from by omega]
          · simp only [q2, if_false, q3, if_true]
        · simp only [q3, if_false]
          simp (disch := omega) only [nI_ltI]
          by_cases q2 : 8 - alk (hS S) i b 0 < fm (hS S) x j (S 0 0)
          · simp only [q2, if_true, show 8 - alk (hS S) i b 0 < fm (hS S) x b i from by omega]
          · simp only [q2, if_false]
            by_cases q4 : 8 - alk (hS S) i b 0 < fm (hS S) x b i
            · simp only [q4, if_true, q2, if_false]
            · simp only [q4, if_false, q3]
      · simp only [q, Bool.false_eq_true, if_false, false_and, if_true]
    · simp only [f12_tree_56_s, f12_tree_117, hM.1, nI_le (Nat.le_refl (S 0 0)) (show S 0 0 < 2 ^ 31 by omega), if_true, Option.map_some, nx, nI_1]
      by_cases z : fm (hS S) x b (S 0 0) < fm (hS S) x j (S 0 0)
      · simp only [z, if_true, eI, eL]
      · simp only [z, if_false, eI, eL]
theorem tree_step {S : Sp} {m : Hp} {x j : Nat} (w : wfNow S) (hM : nowM S m) (hp : m.1 0 61 = 0) (hx : x < 64) (h0 : tb x 0 = true) (v n : Int32) (e : nb (fun b => fm (hS S) x b (S 0 0)) x (S 0 0) = some j) : f12_tree_32 (nI x) v n (-1) 0 0 m = some (.inl (nI x ||| (1 <<< (nI j &&& 31)), v + nI (fm (hS S) x j (S 0 0)), n + 1)) := by
  have hn := w.1
  unfold f12_tree_32
  refine lp_for1 (f := fun z : Int32 × Int32 × Int32 => f12_tree_32_s (nI x) v n z.1 z.2.1 z.2.2 m) (fun i => (eI (nb (fun b => fm (hS S) x b (S 0 0)) x i), eL (fun b => fm (hS S) x b (S 0 0)) (nb (fun b => fm (hS S) x b (S 0 0)) x i), nI i)) (S 0 0) (fun i hi => ?_) ?_
  · simp only [f12_tree_32_s, f12_tree_117, hM.1, nI_ge hi (show S 0 0 < 2 ^ 31 by omega), if_false, isOf_eq, bit1 (show x < 2 ^ 31 by omega) (show i < 32 by omega), Option.bind_some, nI_1, nb]
    by_cases q : tb x i = true
    · simp only [q, if_true, one_ne, if_false]
    · simp only [q, Bool.false_eq_true, if_true, if_false]
      exact tree_in w hM hp hx hi h0 v n _ (fun j hj => by have := (nb_in hj).1; omega)
  · simp only [f12_tree_32_s, f12_tree_123, lt, hM.1, nI_le (Nat.le_refl (S 0 0)) (show S 0 0 < 2 ^ 31 by omega), if_true, e, eI, eL, Option.map_some]
theorem op_tree {S : Sp} {c m : Hp} (w : wfNow S) (hC : nowC S c) (hM : nowM S m) : ∃ r c' m', f11_tree c = some (r, c') ∧ f12_tree m = some (r, m') ∧ frC c c' ∧ frM m m' := by
  have hn := w.1
  obtain ⟨m1, e1, f1, p58, p59, p60, p61, p62, pf, pj⟩ := plain_ex (m0 m)
  have fr := (m0_fr m).tr f1
  have hM1 := hM.fr w fr
  obtain ⟨c1, ec, l⟩ := listen_ex w hC
  have hC1 := hC.fr w l.fr
  simp only [f11_tree, f12_tree, lt, show f12_plainTried (wI m 0 2 0) = some m1 from e1, Option.bind_some, ec, f11_tree_17, f12_tree_15]
  have key := lp_sim (f := fun z : Int32 × Int32 × Int32 => f11_tree_17_s z.1 z.2.1 z.2.2 c1) (g := fun z : Int32 × Int32 × Int32 => f12_tree_15_s z.1 z.2.1 z.2.2 m1) (Q := fun r r' => ∃ v, r = (v, c1) ∧ r' = (v, m1)) (I := fun n s s' => ∃ x v k, n = 7 - k ∧ 1 ≤ k ∧ k ≤ 7 ∧ x < 64 ∧ tb x 0 = true ∧ (∀ j, j < 6 → tb x j = true → j < S 0 0 ∨ j = 0) ∧ (k < S 0 0 → cnt (tb x) 6 = k) ∧ s = s' ∧ s = (nI x, v, nI k)) ?_ 6 (1, 0, 1) (1, 0, 1) ⟨1, 0, 1, rfl, by omega, by omega, by omega, by decide, ?_, fun _ => by decide, rfl, rfl⟩
  · obtain ⟨r, r', e, e', v, rfl, rfl⟩ := key
    exact ⟨v, c1, m1, e, e', l.fr, fr⟩
  · rintro n s _ ⟨x, v, k, hk, k1, k7, hx, h0, hin, hc, rfl, rfl⟩
    by_cases he : S 0 0 ≤ k
    · refine ⟨.inr (v, c1), .inr (v, m1), ?_, ?_, v, rfl, rfl⟩
      · simp only [f11_tree_17_s, hC1.1, nI_le he (show k < 2 ^ 31 by omega), if_true]
      · simp only [f12_tree_15_s, hM1.1, nI_le he (show k < 2 ^ 31 by omega), if_true]
    · have hlt : k < S 0 0 := by omega
      have hg := nI_ge hlt (show S 0 0 < 2 ^ 31 by omega)
      obtain ⟨j0, hj0, hf0⟩ := bfree_all (S 0 0) hn x hx (fun j hj ht => by rcases hin j hj ht with q | q <;> omega) (by rw [hc hlt]; exact hlt)
      obtain ⟨j, ej⟩ := nb_some (F := fun b => fm (hS S) x b (S 0 0)) hj0 hf0
      have hj := nb_in ej
      obtain ⟨b1, b2, b3, b4⟩ := bset_all x hx j (by omega) hj.2
      refine ⟨.inl (nI (x + 2 ^ j), v + nI (fm (hS S) x j (S 0 0)), nI (k + 1)), .inl (nI (x + 2 ^ j), v + nI (fm (hS S) x j (S 0 0)), nI (k + 1)), ?_, ?_, 7 - (k + 1), by omega, x + 2 ^ j, _, k + 1, rfl, by omega, by omega, b2, ?_, ?_, fun _ => by rw [b3, hc hlt], rfl, rfl⟩
      · simp only [f11_tree_17_s, f11_tree_58, lt, hC1.1, hg, if_false, nearest_eq w hC1 l.ear hx, ej, eI, Option.bind_some, m1_ne (show j < 2 ^ 31 by omega), fewest_eq w hC1 l.ear hx hj.1, b1, nI_1]
      · simp only [f12_tree_15_s, hM1.1, hg, if_false, tree_step w hM1 p61 hx h0 v (nI k) ej, b1, nI_1]
      · rw [b4 0 (by omega), h0]; simp
      · intro i hi ht
        rw [b4 i hi] at ht
        simp only [Bool.or_eq_true, decide_eq_true_eq] at ht
        rcases ht with rfl | ht
        · exact Or.inl hj.1
        · exact hin i hi ht
  · have hd : ∀ j, j < 6 → tb 1 j = true → j = 0 := by decide
    exact fun j hj ht => Or.inr (hd j hj ht)
