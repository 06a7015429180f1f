/-! join: the class. -/
def ovm (E : Nat → Nat → Int32) (a b : Nat) : Nat → Nat
  | 0 => 0
  | n + 1 => if alB (fun k => decide (E a (8 - (n + 1) + k) = E b k)) (n + 1) then n + 1 else ovm E a b n
theorem ovm_le (E : Nat → Nat → Int32) (a b : Nat) : ∀ n, ovm E a b n ≤ n
  | 0 => Nat.le_refl 0
  | n + 1 => by
    have := ovm_le E a b n
    unfold ovm
    split <;> omega
theorem alB_c {p q : Nat → Bool} : ∀ {n : Nat}, (∀ i, i < n → p i = q i) → alB p n = alB q n
  | 0, _ => rfl
  | n + 1, h => by
    unfold alB
    rw [alB_c (fun i hi => h i (by omega)), h n (by omega)]
theorem ovm_c {E E' : Nat → Nat → Int32} {a b : Nat} (ha : ∀ k, k < 8 → E a k = E' a k) (hb : ∀ k, k < 8 → E b k = E' b k) : ∀ n, n < 8 → ovm E a b n = ovm E' a b n
  | 0, _ => rfl
  | n + 1, hn => by
    unfold ovm
    rw [ovm_c ha hb n (by omega), alB_c (q := fun k => decide (E' a (8 - (n + 1) + k) = E' b k)) (fun i hi => by rw [ha _ (by omega), hb _ (by omega)])]
theorem eight_i {N k : Nat} (hN : N ≤ 8) : (8 - nI N + nI k : Int32) = nI (8 - N + k) := by rw [lit, pk_sub hN, nI_add]
theorem overlapC {c : Hp} {a b : Nat} (ha : a < 6) (hb : b < 6) : f2_overlap (nI a) (nI b) c = some (nI (ovm (fun i k => c.1 46 (8 * i + k)) a b 7)) := by
  unfold f2_overlap f2_overlap_3
  have inn : ∀ N, 1 ≤ N → N < 8 → ∀ d k, k + d = N → alB (fun k => decide (c.1 46 (8 * a + (8 - N + k)) = c.1 46 (8 * b + k))) k = true → lp (fun z : Int32 => f2_overlap_10_s (nI a) (nI b) (nI N) z c) (nI k) = some (if alB (fun k => decide (c.1 46 (8 * a + (8 - N + k)) = c.1 46 (8 * b + k))) N = true then .inr (nI N) else .inl (nI (N - 1))) := by
    intro N h1 h8 d
    induction d with
    | zero =>
      intro k hk ht
      have hk : k = N := by omega
      subst hk
      rw [if_pos ht]
      refine lp_inr (o := some _) ?_
      simp only [f2_overlap_10_s, f2_overlap_44, nI_le (Nat.le_refl k) (show k < 2 ^ 31 by omega), if_true, Option.map_some]
    | succ d ih =>
      intro k hk ht
      have hge : ¬ nI N ≤ nI k := nI_ge (by omega) (by omega)
      by_cases q : c.1 46 (8 * a + (8 - N + k)) = c.1 46 (8 * b + k)
      · have ht2 : alB (fun k => decide (c.1 46 (8 * a + (8 - N + k)) = c.1 46 (8 * b + k))) (k + 1) = true := by
          show (alB _ k && decide _) = true
          rw [ht, decide_eq_true q]; rfl
        refine (lp_inl (s' := nI (k + 1)) ?_).trans (ih (k + 1) (by omega) ht2)
        simp only [f2_overlap_10_s, hge, if_false, eight_i (show N ≤ 8 by omega), at_raw ha (show 8 - N + k < 8 by omega), at_raw hb (show k < 8 by omega), Option.bind_some, q, if_true, nI_1]
      · rw [if_neg (by rw [alB_f (p := fun k => decide (c.1 46 (8 * a + (8 - N + k)) = c.1 46 (8 * b + k))) (w := k) (decide_eq_false q) (by omega)]; decide)]
        refine lp_inr (o := some _) ?_
        have hne : ¬ nI k = nI N := by rw [nI_eq (by omega) (by omega)]; omega
        have em : nI N + (-1) = nI (N - 1) := by rw [show N = N - 1 + 1 by omega]; exact pk_m1 (N - 1)
        simp only [f2_overlap_10_s, f2_overlap_44, hge, if_false, eight_i (show N ≤ 8 by omega), at_raw ha (show 8 - N + k < 8 by omega), at_raw hb (show k < 8 by omega), Option.bind_some, q, hne, em, Option.map_some]
  have out : ∀ n, n < 8 → lp (fun z : Int32 => f2_overlap_3_s (nI a) (nI b) z c) (nI n) = some (nI (ovm (fun i k => c.1 46 (8 * i + k)) a b n)) := by
    intro n
    induction n with
    | zero =>
      intro _
      refine lp_inr (o := some _) ?_
      simp only [f2_overlap_3_s, show (nI 0 : Int32) = 0 from rfl, Int32.le_refl, if_true, ovm, Option.map_some]
    | succ n ih =>
      intro hn
      have h := inn (n + 1) (by omega) hn (n + 1) 0 (by omega) rfl
      have e : f2_overlap_3_s (nI a) (nI b) (nI (n + 1)) c = lp (fun z : Int32 => f2_overlap_10_s (nI a) (nI b) (nI (n + 1)) z c) (nI 0) := by
        simp only [f2_overlap_3_s, nI_nle (show 0 < n + 1 by omega) (show n + 1 < 2 ^ 31 by omega), if_false, f2_overlap_10]; rfl
      unfold ovm
      by_cases q : alB (fun k => decide (c.1 46 (8 * a + (8 - (n + 1) + k)) = c.1 46 (8 * b + k))) (n + 1) = true
      · rw [if_pos q] at h
        rw [if_pos q]
        exact lp_inr (o := some _) (e.trans h)
      · rw [if_neg q] at h
        rw [if_neg q, ← ih (by omega)]
        exact lp_inl (e.trans h)
  exact out 7 (by omega)
theorem overlapM {S : Sp} {m : Hp} {a b : Nat} (w : wfNow S) (hM : nowM S m) (hp : m.1 0 61 = 0) (ha : a < S 0 0) (hb : b < S 0 0) : f12_overlap (nI a) (nI b) m = some (nI (ovm (fun i k => nI (hS S i k)) a b 7)) := by
  unfold f12_overlap f12_overlap_3
  have inn : ∀ N, 1 ≤ N → N < 8 → f12_overlap_13 (nI a) (nI b) (nI N) 1 0 m = some (if alB (fun k => decide (nI (hS S a (8 - N + k)) = nI (hS S b k))) N = true then .inr (nI N) else .inl (nI (N - 1))) := by
    intro N h1 h8
    unfold f12_overlap_13
    have em : nI N + (-1) = nI (N - 1) := by rw [show N = N - 1 + 1 by omega]; exact pk_m1 (N - 1)
    refine lp_for1 (f := fun z : Int32 × Int32 => f12_overlap_13_s (nI a) (nI b) (nI N) z.1 z.2 m) (fun k => (bI (alB (fun k => decide (nI (hS S a (8 - N + k)) = nI (hS S b k))) k), nI k)) N (fun k hk => ?_) ?_
    · have hge : ¬ nI N ≤ nI k := nI_ge (by omega) (by omega)
      simp only [f12_overlap_13_s, f12_overlap_52, f12_overlap_53, hge, if_false, eight_i (show N ≤ 8 by omega), heardIn_nI w hM ha (show 8 - N + k < 8 by omega) hp, heardIn_nI w hM hb (show k < 8 by omega) hp, Option.bind_some, nI_1, alB]
      cases alB (fun k => decide (nI (hS S a (8 - N + k)) = nI (hS S b k))) k with
      | false => simp only [bI, Bool.false_eq_true, if_false, if_true, Bool.false_and]
      | true =>
        by_cases q : nI (hS S a (8 - N + k)) = nI (hS S b k)
        · simp only [bI, if_true, one_ne, if_false, q, decide_true, Bool.and_true]
        · simp only [bI, if_true, one_ne, if_false, q, decide_false, Bool.and_false, Bool.false_eq_true]
    · simp only [f12_overlap_13_s, f12_overlap_61, nI_le (Nat.le_refl N) (show N < 2 ^ 31 by omega), if_true, em]
      cases alB (fun k => decide (nI (hS S a (8 - N + k)) = nI (hS S b k))) N with
      | false => simp only [bI, Bool.false_eq_true, if_false, if_true, Option.map_some]
      | true => simp only [bI, if_true, one_ne, if_false, Option.map_some]
  have out : ∀ n, n < 8 → lp (fun z : Int32 => f12_overlap_3_s (nI a) (nI b) z m) (nI n) = some (nI (ovm (fun i k => nI (hS S i k)) a b n)) := by
    intro n
    induction n with
    | zero =>
      intro _
      refine lp_inr (o := some _) ?_
      simp only [f12_overlap_3_s, show (nI 0 : Int32) = 0 from rfl, Int32.le_refl, if_true, ovm, Option.map_some]
    | succ n ih =>
      intro hn
      have h := inn (n + 1) (by omega) hn
      have e : f12_overlap_3_s (nI a) (nI b) (nI (n + 1)) m = f12_overlap_13 (nI a) (nI b) (nI (n + 1)) 1 0 m := by
        simp only [f12_overlap_3_s, nI_nle (show 0 < n + 1 by omega) (show n + 1 < 2 ^ 31 by omega), if_false]
      unfold ovm
      by_cases q : alB (fun k => decide (nI (hS S a (8 - (n + 1) + k)) = nI (hS S b k))) (n + 1) = true
      · rw [if_pos q] at h
        rw [if_pos q]
        exact lp_inr (o := some _) (e.trans h)
      · rw [if_neg q] at h
        rw [if_neg q, ← ih (by omega)]
        exact lp_inl (e.trans h)
  exact out 7 (by omega)
theorem six_k {i k : Nat} : (nI i * 6 + nI k : Int32) = nI (6 * i + k) := by rw [lit, pk_mul, nI_add, Nat.mul_comm]
/-- what is added of one box behind another, by what the ear holds -/
def AE (c : Hp) (i k : Nat) : Nat := 8 - ovm (fun i k => c.1 46 (8 * i + k)) i k 7
theorem AE_le (c : Hp) (i k : Nat) : AE c i k ≤ 8 := by unfold AE; omega
theorem added_ex {c : Hp} {x : Int32} : ∃ h, f6_shortest x c = f6_shortest_57 x h ∧ (∀ i k, i < 6 → k < 6 → h.1 49 (6 * i + k) = nI (AE c i k)) ∧ h.1 47 3 = 0 ∧ (∀ q k, q ≠ 49 → ¬ (q = 47 ∧ k = 3) → h.1 q k = c.1 q k) ∧ h.2 = c.2 := by
  simp only [f6_shortest, lt, f6_shortest_7]
  obtain ⟨⟨a, h⟩, e, i1, i2, i3, i4, i5⟩ := lp_walk (f := fun z : Int32 × Hp => f6_shortest_7_s x z.1 z.2) (fun i z => z.1 = nI i ∧ (∀ j k, j < i → k < 6 → z.2.1 49 (6 * j + k) = nI (AE c j k)) ∧ z.2.1 47 3 = 0 ∧ (∀ q k, q ≠ 49 → ¬ (q = 47 ∧ k = 3) → z.2.1 q k = c.1 q k) ∧ z.2.2 = c.2) 6 (0, wI c 47 3 0) ⟨rfl, fun j k hj => by omega, wI_s, fun q k _ n => wI_o n, rfl⟩ (fun i z hi hI => by
    obtain ⟨a, h⟩ := z
    dsimp only at hI
    obtain ⟨rfl, i2, i3, i4, i5⟩ := hI
    obtain ⟨⟨b, h2⟩, e, j1, j2, j3, j4, j5, j6⟩ := lp_walk (f := fun z : Int32 × Hp => f6_shortest_16_s x (nI i) z.1 z.2) (fun u z => z.1 = nI u ∧ (∀ j k, j < i → k < 6 → z.2.1 49 (6 * j + k) = nI (AE c j k)) ∧ z.2.1 47 3 = 0 ∧ (∀ q k, q ≠ 49 → ¬ (q = 47 ∧ k = 3) → z.2.1 q k = c.1 q k) ∧ z.2.2 = c.2 ∧ ∀ k, k < u → z.2.1 49 (6 * i + k) = nI (AE c i k)) 6 (0, h) ⟨rfl, i2, i3, i4, i5, fun k hk => by omega⟩ (fun u z hu hI => by
      obtain ⟨b, h2⟩ := z
      dsimp only at hI
      obtain ⟨rfl, j2, j3, j4, j5, j6⟩ := hI
      have eo : f2_overlap (nI i) (nI u) h2 = some (nI (ovm (fun i k => c.1 46 (8 * i + k)) i u 7)) := by
        rw [overlapC hi hu, ovm_c (E' := fun i k => c.1 46 (8 * i + k)) (fun k _ => j4 _ _ (by omega) (by omega)) (fun k _ => j4 _ _ (by omega) (by omega)) 7 (by omega)]
      have e8 : (8 - nI (ovm (fun i k => c.1 46 (8 * i + k)) i u 7) : Int32) = nI (AE c i u) := by
        have := ovm_le (fun i k => c.1 46 (8 * i + k)) i u 7
        unfold AE
        rw [lit, pk_sub (by omega)]
      refine ⟨(nI (u + 1), wI h2 49 (6 * i + u) (nI (AE c i u))), ?_, rfl, fun j k hj hk => ?_, (wI_o (by omega)).trans j3, fun q k n1 n2 => (wI_o (by omega)).trans (j4 q k n1 n2), j5, fun k hk => ?_⟩
      · simp only [f6_shortest_16_s, g6 hu, if_false, eo, Option.bind_some, gd, six_k, inb_t (show 6 * i + u < 36 by omega) (by omega), ix_nI (show 6 * i + u < 2 ^ 31 by omega), if_true, lt, e8, nI_1]
      · show (wI h2 49 (6 * i + u) (nI (AE c i u))).1 49 (6 * j + k) = _
        rw [wI_o (by omega)]; exact j2 j k hj hk
      · show (wI h2 49 (6 * i + u) (nI (AE c i u))).1 49 (6 * i + k) = _
        by_cases z : k = u
        · rw [z, wI_s]
        · rw [wI_o (by omega)]; exact j6 k (by omega))
    dsimp only at j1 j2 j3 j4 j5 j6
    subst j1
    refine ⟨(nI (i + 1), h2), ?_, rfl, fun j k hj hk => ?_, j3, j4, j5⟩
    · simp only [f6_shortest_7_s, g6 hi, if_false, f6_shortest_16]
      show lp _ (0, h) = _
      rw [e]
      refine lp_inr (o := some _) ?_
      simp only [f6_shortest_16_s, f6_shortest_51, l6, if_true, Option.map_some, nI_1]
    · by_cases z : j = i
      · rw [z]; exact j6 k hk
      · exact j2 j k (by omega) hk)
  dsimp only at i1 i2 i3 i4 i5
  subst i1
  refine ⟨h, ?_, i2, i3, i4, i5⟩
  rw [e]
  refine lp_inr ?_
  simp only [f6_shortest_7_s, l6, if_true]
theorem eI_n : eI none = -1 := rfl
theorem eI_s (j : Nat) : eI (some j) = nI j := rfl
theorem lengthBy_eq {A : Nat → Nat → Nat} {h : Hp} {ah : Option Nat} {i L t : Nat} (hA : ∀ i k, i < 6 → k < 6 → h.1 49 (6 * i + k) = nI (A i k)) (hah : ∀ y, ah = some y → y < 6) (hi : i < 6) (hL : L < 64) (hv : h.1 48 (6 * L + i) = nI t) : f6_lengthBy (eI ah) (nI i) (nI L) h = some (nI (t + Ah A ah i)) := by
  simp only [f6_lengthBy, f6_lengthBy_31, gd, six_k, inb_t (show 6 * L + i < 384 by omega) (by omega), ix_nI (show 6 * L + i < 2 ^ 31 by omega), if_true, hv]
  cases ah with
  | none => simp only [eI_n, if_true, Ah, Int32.add_zero, Nat.add_zero]
  | some y =>
    have hy := hah y rfl
    simp only [eI_s, m1_ne (show y < 2 ^ 31 by omega), if_false, six_k, inb_t (show 6 * y + i < 36 by omega) (by omega), ix_nI (show 6 * y + i < 2 ^ 31 by omega), if_true, hA y i hy hi, nI_add, Ah]
theorem next_eq {A : Nat → Nat → Nat} {h : Hp} {ah : Option Nat} {L : Nat} {T : Nat → Nat} (hA : ∀ i k, i < 6 → k < 6 → h.1 49 (6 * i + k) = nI (A i k)) (hah : ∀ y, ah = some y → y < 6) (hL : L < 64) (hv : ∀ i, i < 6 → tb L i = true → h.1 48 (6 * L + i) = nI (T i)) (hT : ∀ i, T i + Ah A ah i < 2 ^ 31) : f6_shortestNext (eI ah) (nI L) h = some (eI (amd (fun i => T i + Ah A ah i) L 6)) := by
  unfold f6_shortestNext f6_shortestNext_5
  refine lp_for1 (f := fun z : Int32 × Int32 => f6_shortestNext_5_s (eI ah) (nI L) z.1 z.2 h) (fun k => (eI (amd (fun i => T i + Ah A ah i) L k), dn (6 - k))) 6 (fun k hk => ?_) ?_
  · have e1 : dn (6 - k) = nI (5 - k) := by rw [show 6 - k = 5 - k + 1 by omega]; exact dn_S (5 - k)
    have e2 : nI (5 - k) + (-1) = dn (6 - (k + 1)) := by rw [show 6 - (k + 1) = 5 - k by omega]; exact dn_step (5 - k)
    have b := bit1 (x := L) (p := 5 - k) (by omega) (by omega)
    simp only [e1, f6_shortestNext_5_s, f6_shortestNext_43, f6_shortestNext_46, nI_pos (show 5 - k < 2 ^ 31 by omega), if_false, b, e2]
    show _ = some (Sum.inl (eI (if tb L (5 - k) then (match amd (fun i => T i + Ah A ah i) L k with | none => some (5 - k) | some j => if T j + Ah A ah j < T (5 - k) + Ah A ah (5 - k) then some j else some (5 - k)) else amd (fun i => T i + Ah A ah i) L k), dn (6 - (k + 1))))
    cases q : tb L (5 - k) with
    | false => simp only [Bool.false_eq_true, if_false]
    | true =>
      simp only [if_true]
      cases ho : amd (fun i => T i + Ah A ah i) L k with
      | none => simp only [eI_n, eI_s, if_true]
      | some j =>
        obtain ⟨a1, a2, a3, -⟩ := (amd_s k (by omega)).2 j ho
        have h1 := hT j
        have h2 := hT (5 - k)
        simp only [eI_s, m1_ne (show j < 2 ^ 31 by omega), if_false, lengthBy_eq hA hah (show 5 - k < 6 by omega) hL (hv _ (by omega) q), lengthBy_eq hA hah a2 hL (hv _ a2 a3), Option.bind_some]
        by_cases z : T j + Ah A ah j < T (5 - k) + Ah A ah (5 - k)
        · rw [if_pos (nI_lt z h2), if_pos z]; rfl
        · rw [if_neg (nI_nlt (show T (5 - k) + Ah A ah (5 - k) ≤ T j + Ah A ah j by omega) h1), if_neg z]; rfl
  · simp only [f6_shortestNext_5_s, show (dn (6 - 6) < 0) = True from by decide, if_true]
