/-! Tokens: the tape, words, numbers, signs on both sides. -/
def isL (n : Nat) : Bool := decide (97 ≤ n ∧ n ≤ 122)
def isD (n : Nat) : Bool := decide (48 ≤ n ∧ n ≤ 57)
theorem by_all : ∀ n, n < 256 → f8_isLetter (by8 n) = some (bI (isL n)) ∧ f8_isDigit (by8 n) = some (bI (isD n)) ∧ decide (by8 n = 10) = decide (n = 10) ∧ decide (by8 n = 32) = decide (n = 32) ∧ (n < 128 → by8 n = nI n) := by decide +kernel
/-- the reference's words, one behind another; where each begins, how long it is; the class's number of it -/
def wlL : List Nat := [98, 111, 120, 32, 116, 111, 111, 116, 104, 32, 107, 105, 110, 32, 103, 117, 101, 115, 116, 32, 100, 97, 109, 112, 32, 115, 101, 101, 100, 32, 108, 97, 119, 32, 119, 101, 97, 114, 32, 115, 111, 117, 114, 32, 99, 104, 97, 114, 109, 32, 97, 110, 100, 32, 111, 114, 32, 110, 111, 116, 32, 115, 112, 114, 105, 110, 103, 32, 115, 108, 111, 119, 32, 112, 105, 110, 115, 32, 102, 97, 108, 115, 101, 32, 116, 101, 101, 116, 104, 32, 112, 108, 97, 121, 115, 32, 121, 101, 97, 114, 32]
def wl (j : Nat) : Nat := wlL.getD j 0
def offL : List Nat := [0, 4, 10, 14, 20, 25, 30, 34, 39, 44, 50, 54, 57, 61, 68, 73, 78, 84, 90, 96, 101]
def off (w : Nat) : Nat := offL.getD w 0
def lnW (w : Nat) : Nat := off (w + 1) - off w - 1
def langL : List Nat := [83623936, 687329536, 378994688, 257085056, 135708672, 642945024, 404455424, 777046016, 653969408, 109103520, 48365568, 522190848, 486146048, 654910919, 650632192, 546786304, 202788000, 676516096, 549512800, 844154880]
def langN (w : Nat) : Nat := langL.getD w 0
def pkF (f : Nat → Nat) : Nat → Nat
  | 0 => 0
  | k + 1 => 32 * pkF f k + f k
theorem pkF_inj {f g : Nat → Nat} : ∀ k, (∀ i, i < k → f i < 32 ∧ g i < 32) → pkF f k = pkF g k → ∀ i, i < k → f i = g i
  | 0, _, _, i, hi => (by omega)
  | k + 1, h, e, i, hi => by
    have e : 32 * pkF f k + f k = 32 * pkF g k + g k := e
    obtain ⟨h1, h2⟩ := h k (by omega)
    by_cases q : i = k
    · rw [q]; omega
    · exact pkF_inj k (fun j hj => h j (by omega)) (by omega) i (by omega)
theorem pkF_c {f g : Nat → Nat} : ∀ k, (∀ i, i < k → f i = g i) → pkF f k = pkF g k
  | 0, _ => rfl
  | k + 1, h => by
    show 32 * pkF f k + f k = 32 * pkF g k + g k
    rw [pkF_c k (fun i hi => h i (by omega)), h k (by omega)]
theorem pkF_lt {f : Nat → Nat} : ∀ k, (∀ i, i < k → f i < 32) → pkF f k < 32 ^ k
  | 0, _ => Nat.zero_lt_one
  | k + 1, h => by
    have := pkF_lt k (fun i hi => h i (by omega))
    have := h k (by omega)
    show 32 * pkF f k + f k < 32 ^ (k + 1)
    rw [Nat.pow_succ]
    omega
def flW (w i : Nat) : Nat := if i < lnW w then wl (off w + i) - 96 else 0
theorem lang_all : ∀ w, w < 20 → langN w = pkF (flW w) 6 ∧ 1 ≤ lnW w ∧ lnW w ≤ 6 ∧ off (w + 1) = off w + lnW w + 1 ∧ off w + lnW w < 101 ∧ wl (off w + lnW w) = 32 ∧ langN w < 2 ^ 31 ∧ ∀ i, i < 6 → (i < lnW w → 97 ≤ wl (off w + i) ∧ wl (off w + i) ≤ 122) := by decide +kernel
theorem lang_ne : ∀ w, w < 20 → ∀ v, v < 20 → langN w = langN v → w = v := by decide +kernel
/-- the letters of a word of n letters from q on -/
def flT (T : Nat → Nat) (q n i : Nat) : Nat := if i < n then T (q + i) - 96 else 0
theorem flT_lt {T : Nat → Nat} {q n : Nat} (h : ∀ i, i < n → isL (T (q + i)) = true) (i : Nat) : flT T q n i < 32 := by
  unfold flT
  split
  · rename_i hi
    have := h i hi
    unfold isL at this
    rw [decide_eq_true_eq] at this
    omega
  · omega
theorem flW_lt {w i : Nat} (hw : w < 20) (hi : i < 6) : flW w i < 32 := by
  unfold flW
  split
  · rename_i h
    have := (lang_all w hw).2.2.2.2.2.2.2 i hi h
    omega
  · omega
def mtch (T : Nat → Nat) (q n w : Nat) : Prop := lnW w = n ∧ ∀ i, i < n → wl (off w + i) = T (q + i)
theorem mtch_iff {T : Nat → Nat} {q n w : Nat} (hn : n ≤ 6) (h : ∀ i, i < n → isL (T (q + i)) = true) (hw : w < 20) : mtch T q n w ↔ pkF (flT T q n) 6 = langN w := by
  obtain ⟨l1, l2, l3, l4, l5, l6, l7, l8⟩ := lang_all w hw
  have hL : ∀ i, i < n → 97 ≤ T (q + i) ∧ T (q + i) ≤ 122 := fun i hi => by
    have := h i hi
    unfold isL at this
    rw [decide_eq_true_eq] at this
    exact this
  constructor
  · rintro ⟨e1, e2⟩
    rw [l1]
    refine pkF_c 6 (fun i hi => ?_)
    unfold flT flW
    rw [e1]
    by_cases z : i < n
    · rw [if_pos z, if_pos z, e2 i z]
    · rw [if_neg z, if_neg z]
  · intro e
    rw [l1] at e
    have k := pkF_inj 6 (fun i hi => ⟨flT_lt h i, flW_lt hw hi⟩) e
    have en : lnW w = n := by
      rcases Nat.lt_trichotomy (lnW w) n with z | z | z
      · have := k (lnW w) (by omega)
        unfold flT flW at this
        rw [if_pos z, if_neg (by omega)] at this
        have := hL (lnW w) z
        omega
      · exact z
      · have := k n (by omega)
        unfold flT flW at this
        rw [if_neg (by omega), if_pos z] at this
        have := l8 n (by omega) z
        omega
    refine ⟨en, fun i hi => ?_⟩
    have := k i (by omega)
    unfold flT flW at this
    rw [if_pos hi, if_pos (by omega)] at this
    have := hL i hi
    have := l8 i (by omega) (by omega)
    omega
def wrdM (m : Hp) : Prop := ∀ j, j < 101 → m.1 2 j = nI (wl j)
theorem wl_lt : ∀ j, j < 101 → wl j < 256 ∧ (∀ w, w < 20 → off w ≤ j → j < off w + lnW w → wl j ≠ 32) := by decide +kernel
/-- one word of the reference's table -/
theorem wordAt_1 {T : Nat → Nat} {E q n w : Nat} {m : Hp} (hm : wrdM m) (hE : E ≤ 700) (hq : q + n ≤ E) (hT : ∀ i, i < E → T i < 256 ∧ m.1 1 i = nI (T i)) (hw : w < 20) : f12_wordAt_18 (nI q) (nI (q + n)) (nI w) (nI (off w)) 0 m = some (if alB (fun i => decide (wl (off w + i) = T (q + i))) (if lnW w = n then lnW w else 0) = true ∧ lnW w = n then .inr (nI w) else .inl (nI (w + 1), nI (off (w + 1)))) := by
  obtain ⟨l1, l2, l3, l4, l5, l6, l7, l8⟩ := lang_all w hw
  unfold f12_wordAt_18
  have fin : f12_wordAt_39 (nI q) (nI (q + n)) (nI w) (nI (off w)) (nI (lnW w)) m = some (if alB (fun i => decide (wl (off w + i) = T (q + i))) (if lnW w = n then lnW w else 0) = true ∧ lnW w = n then .inr (nI w) else .inl (nI (w + 1), nI (off (w + 1)))) := by
    have e1 : nI (q + n) - nI q = nI n := by rw [pk_sub (by omega)]; congr 1; omega
    have e3 : nI (off w) + nI (lnW w + 1) = nI (off (w + 1)) := by rw [nI_add, l4]; congr 1
    have e4 : (nI (lnW w) = nI n) ↔ lnW w = n := nI_eq (by omega) (by omega)
    have e104 : ∀ b : Bool, f12_wordAt_104 (nI q) (nI (q + n)) (nI w) (nI (off w)) (nI (lnW w)) (bI b) m = some (if b = true then .inr (nI w) else .inl (nI (w + 1), nI (off (w + 1)))) := by
      intro b
      cases b with
      | false => simp only [f12_wordAt_104, bI, Bool.false_eq_true, if_false, if_true, lt, e3, nI_1]
      | true => simp only [f12_wordAt_104, bI, one_ne, if_false, if_true]
    simp only [f12_wordAt_39, f12_wordAt_52, e1, e4]
    by_cases z : lnW w = n
    · rw [if_pos z, if_pos z]
      unfold f12_wordAt_57
      -- walk to the first that differs
      have go : ∀ d i, i + d = n → alB (fun i => decide (wl (off w + i) = T (q + i))) i = true → lp (fun z : Int32 × Int32 => f12_wordAt_57_s (nI q) (nI (q + n)) (nI w) (nI (off w)) (nI (lnW w)) z.1 z.2 m) (1, nI i) = some (if alB (fun i => decide (wl (off w + i) = T (q + i))) (lnW w) = true ∧ lnW w = n then .inr (nI w) else .inl (nI (w + 1), nI (off (w + 1)))) := by
        intro d
        induction d with
        | zero =>
          intro i hi ht
          have hi : i = lnW w := by omega
          subst hi
          rw [if_pos ⟨ht, z⟩]
          refine lp_inr (o := some _) ?_
          have := e104 true
          simp only [f12_wordAt_57_s, nI_le (Nat.le_refl (lnW w)) (show lnW w < 2 ^ 31 by omega), if_true]
          exact congrArg (Option.map (fun z => Sum.inr z)) this
        | succ d ih =>
          intro i hi ht
          have a1 : nI (off w) + nI i = nI (off w + i) := nI_add _ _
          have a2 : nI q + nI i = nI (q + i) := nI_add _ _
          have v1 : m.1 2 (off w + i) = nI (wl (off w + i)) := hm _ (by omega)
          have v2 := hT (q + i) (by omega)
          have v3 := (wl_lt (off w + i) (by omega)).1
          have st : ∀ b : Bool, b = decide (wl (off w + i) = T (q + i)) → f12_wordAt_57_s (nI q) (nI (q + n)) (nI w) (nI (off w)) (nI (lnW w)) 1 (nI i) m = some (.inl (bI b, nI (i + 1))) := by
            intro b hb
            simp only [f12_wordAt_57_s, f12_wordAt_96, nI_ge (show i < lnW w by omega) (show lnW w < 2 ^ 31 by omega), if_false, one_ne, gd, a1, a2, inb_t (show off w + i < 101 by omega) (by omega), inb_t (show q + i < 700 by omega) (by omega), ix_nI (show off w + i < 2 ^ 31 by omega), ix_nI (show q + i < 2 ^ 31 by omega), if_true, v1, v2.2, nI_1]
            subst hb
            by_cases qq : wl (off w + i) = T (q + i)
            · rw [if_pos (by rw [qq]), decide_eq_true qq]; rfl
            · rw [if_neg (by rw [nI_eq (by omega) (by omega)]; exact qq), decide_eq_false qq]; rfl
          by_cases qq : wl (off w + i) = T (q + i)
          · have := st true (by rw [decide_eq_true qq])
            refine (lp_inl (f := fun z : Int32 × Int32 => f12_wordAt_57_s (nI q) (nI (q + n)) (nI w) (nI (off w)) (nI (lnW w)) z.1 z.2 m) (s := (1, nI i)) (s' := (1, nI (i + 1))) this).trans (ih (i + 1) (by omega) ?_)
            show (alB _ i && decide _) = true
            rw [ht, decide_eq_true qq]; rfl
          · have := st false (by rw [decide_eq_false qq])
            have hf : alB (fun i => decide (wl (off w + i) = T (q + i))) (lnW w) = false := alB_f (w := i) (decide_eq_false qq) (by omega)
            rw [if_neg (by rw [hf]; intro h; exact absurd h.1 (by decide))]
            refine (lp_inl (f := fun z : Int32 × Int32 => f12_wordAt_57_s (nI q) (nI (q + n)) (nI w) (nI (off w)) (nI (lnW w)) z.1 z.2 m) (s := (1, nI i)) (s' := (0, nI (i + 1))) this).trans (lp_inr (o := some _) ?_)
            have e0 := e104 false
            have e0 : f12_wordAt_104 (nI q) (nI (q + n)) (nI w) (nI (off w)) (nI (lnW w)) 0 m = some (.inl (nI (w + 1), nI (off (w + 1)))) := e0
            simp only [f12_wordAt_57_s, if_true, e0, ite_self, Option.map_some]
      exact go n 0 (by omega) rfl
    · rw [if_neg z, if_neg z, if_neg (fun h => z h.2)]
      unfold f12_wordAt_57
      refine lp_inr (o := some _) ?_
      have e0 := e104 false
      have e0 : f12_wordAt_104 (nI q) (nI (q + n)) (nI w) (nI (off w)) (nI (lnW w)) 0 m = some (.inl (nI (w + 1), nI (off (w + 1)))) := e0
      simp only [f12_wordAt_57_s, if_true, e0, ite_self, Option.map_some]
  refine lp_for (f := fun z : Int32 => f12_wordAt_18_s (nI q) (nI (q + n)) (nI w) (nI (off w)) z m) (fun i => nI i) (lnW w) (fun i hi => ?_) ?_
  · have a1 : nI (off w) + nI i = nI (off w + i) := nI_add _ _
    have v1 : m.1 2 (off w + i) = nI (wl (off w + i)) := hm _ (by omega)
    obtain ⟨v3, v4⟩ := wl_lt (off w + i) (by omega)
    have v5 : ¬ nI (wl (off w + i)) = (32 : Int32) := by rw [show (32 : Int32) = nI 32 from rfl, nI_eq (by omega) (by omega)]; exact v4 w hw (by omega) (by omega)
    simp only [f12_wordAt_18_s, gd, a1, inb_t (show off w + i < 101 by omega) (by omega), ix_nI (show off w + i < 2 ^ 31 by omega), if_true, v1, v5, if_false, nI_1]
  · have a1 : nI (off w) + nI (lnW w) = nI (off w + lnW w) := nI_add _ _
    have v1 : m.1 2 (off w + lnW w) = 32 := (hm _ (by omega)).trans (by rw [l6]; rfl)
    simp only [f12_wordAt_18_s, gd, a1, inb_t (show off w + lnW w < 101 by omega) (by omega), ix_nI (show off w + lnW w < 2 ^ 31 by omega), if_true, v1, fin]
