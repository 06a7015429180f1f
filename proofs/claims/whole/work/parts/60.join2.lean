/-! join: the class's table and its row. -/
theorem sub_all : ∀ L, L < 64 → ∀ bx, bx < 64 → decide (nI L &&& (nI bx ^^^ (-1)) = 0) = alB (fun j => !tb L j || tb bx j) 6 ∧ (alB (fun j => !tb L j || tb bx j) 6 = true → L ≤ bx) := by decide +kernel
theorem alB_t {p : Nat → Bool} : ∀ {n : Nat}, alB p n = true ↔ ∀ i, i < n → p i = true
  | 0 => ⟨fun _ i hi => (by omega), fun _ => rfl⟩
  | n + 1 => by
    unfold alB
    rw [Bool.and_eq_true, alB_t (n := n)]
    constructor
    · rintro ⟨a, b⟩ i hi
      by_cases q : i = n
      · rw [q]; exact b
      · exact a i (by omega)
    · intro h
      exact ⟨fun i hi => h i (by omega), h n (by omega)⟩
theorem sub_b {L bx : Nat} : alB (fun j => !tb L j || tb bx j) 6 = true ↔ sub L bx := by
  rw [alB_t]
  unfold sub
  constructor
  · intro h j hj hL
    have := h j hj
    rw [hL] at this
    exact this
  · intro h j hj
    cases q : tb L j with
    | false => rfl
    | true => rw [h j hj q]; rfl
theorem sub_iff {L bx : Nat} (hL : L < 64) (hb : bx < 64) : (nI L &&& (nI bx ^^^ (-1)) = 0) ↔ sub L bx := by
  rw [← sub_b, ← (sub_all L hL bx hb).1, decide_eq_true_eq]
theorem sub_le {L bx : Nat} (hL : L < 64) (hb : bx < 64) (h : sub L bx) : L ≤ bx := (sub_all L hL bx hb).2 (sub_b.mpr h)
def TJ (A : Nat → Nat → Nat) (L x : Nat) : Nat := Tj A (cnt (tb L) 6) L x
theorem TJ_S {A : Nat → Nat → Nat} {L x : Nat} (hL : L < 64) (hx : x < 6) (hb : tb L x = true) : TJ A L x = Vj A (cnt (tb (L - 2 ^ x)) 6) (L - 2 ^ x) (some x) := by
  unfold TJ
  rw [← (clr hL hx hb).2.1]; rfl
theorem TJ_le {A : Nat → Nat → Nat} (hA : ∀ i k, A i k ≤ 8) (L x : Nat) : TJ A L x ≤ 56 := by
  have h1 := Tj_le hA (cnt (tb L) 6) L x
  have h2 := cnt_le (tb L) 6
  unfold TJ
  omega
theorem Ah_le {A : Nat → Nat → Nat} (hA : ∀ i k, A i k ≤ 8) (ah : Option Nat) (i : Nat) : Ah A ah i ≤ 8 := by
  cases ah with
  | none => exact Nat.zero_le 8
  | some x => exact hA x i
theorem of_eq {A : Nat → Nat → Nat} {h : Hp} {ah : Option Nat} {L : Nat} (hA : ∀ i k, A i k ≤ 8) (h49 : ∀ i k, i < 6 → k < 6 → h.1 49 (6 * i + k) = nI (A i k)) (hah : ∀ y, ah = some y → y < 6) (hL : L < 64) (ht : ∀ i, i < 6 → tb L i = true → h.1 48 (6 * L + i) = nI (TJ A L i)) : f6_shortestNext (eI ah) (nI L) h = some (eI (amd (Fj A (cnt (tb L) 6) L ah) L 6)) ∧ f6_shortestOf (eI ah) (nI L) h = some (if L = 0 then 0 else nI (Vj A (cnt (tb L) 6) L ah)) := by
  have hn := next_eq (T := TJ A L) h49 hah hL ht (fun i => by have := TJ_le hA L i; have := Ah_le hA ah i; omega)
  have hn : f6_shortestNext (eI ah) (nI L) h = some (eI (amd (Fj A (cnt (tb L) 6) L ah) L 6)) := hn
  refine ⟨hn, ?_⟩
  simp only [f6_shortestOf, hn, Option.bind_some]
  cases e : amd (Fj A (cnt (tb L) 6) L ah) L 6 with
  | none =>
    have h0 := (z_all L hL).1 ((amd_none hL).mp e)
    rw [if_pos h0]
    simp only [eI_n, if_true]
  | some b =>
    obtain ⟨a1, a2, a3, -⟩ := (amd_s 6 (Nat.le_refl 6)).2 b e
    have h0 : ¬ L = 0 := fun z => by rw [z, tb_z b a2] at a3; cases a3
    have hV : Vj A (cnt (tb L) 6) L ah = TJ A L b + Ah A ah b := by unfold Vj; rw [e]; rfl
    have lb := lengthBy_eq h49 hah a2 hL (ht b a2 a3)
    rw [if_neg h0, hV, eI_s, if_neg (m1_ne (show b < 2 ^ 31 by omega)), lb]; rfl
theorem from_eq {A : Nat → Nat → Nat} {h : Hp} {x L : Nat} (hA : ∀ i k, A i k ≤ 8) (h49 : ∀ i k, i < 6 → k < 6 → h.1 49 (6 * i + k) = nI (A i k)) (hx : x < 6) (hL : L < 64) (ht : ∀ i, i < 6 → tb L i = true → h.1 48 (6 * L + i) = nI (TJ A L i)) : f6_shortestFrom (nI x) (nI L) h = some (nI (Vj A (cnt (tb L) 6) L (some x))) := by
  have ho := (of_eq (ah := some x) hA h49 (fun y hy => by have := Option.some.inj hy; omega) hL ht).2
  have ho : f6_shortestOf (nI x) (nI L) h = some (if L = 0 then 0 else nI (Vj A (cnt (tb L) 6) L (some x))) := ho
  by_cases q : L = 0
  · have e : amd (Fj A (cnt (tb L) 6) L (some x)) L 6 = none := (amd_none hL).mpr ((z_all L hL).2 q)
    have hV : Vj A (cnt (tb L) 6) L (some x) = 8 := by unfold Vj; rw [e]
    rw [hV]
    subst q
    rfl
  · rw [if_neg q] at ho
    simp only [f6_shortestFrom, nI_ne0 (show 0 < L by omega) (show L < 2 ^ 31 by omega), if_false, ho, Option.bind_some]
def tabF (A : Nat → Nat → Nat) (bx : Nat) (h : Hp) : Prop := ∀ L x, L < 64 → x < 6 → sub L bx → tb L x = true → h.1 48 (6 * L + x) = nI (TJ A L x)
theorem table_ex {A : Nat → Nat → Nat} {bx : Nat} {h : Hp} (hA : ∀ i k, A i k ≤ 8) (hbx : bx < 64) (h49 : ∀ i k, i < 6 → k < 6 → h.1 49 (6 * i + k) = nI (A i k)) : ∃ h', f6_shortest_57 (nI bx) h = f6_shortest_130 (nI bx) h' ∧ tabF A bx h' ∧ (∀ q k, q ≠ 48 → h'.1 q k = h.1 q k) ∧ h'.2 = h.2 := by
  unfold f6_shortest_57 f6_shortest_59
  obtain ⟨⟨a, h1⟩, e, i1, i2, i3, i4⟩ := lp_walk (f := fun z : Int32 × Hp => f6_shortest_59_s (nI bx) z.1 z.2) (fun n z => z.1 = nI (n + 1) ∧ (∀ L x, L < n + 1 → x < 6 → sub L bx → tb L x = true → z.2.1 48 (6 * L + x) = nI (TJ A L x)) ∧ (∀ q k, q ≠ 48 → z.2.1 q k = h.1 q k) ∧ z.2.2 = h.2) bx (1, h) ⟨rfl, fun L x hL hx _ hb => (by
      have h0 : L = 0 := by omega
      rw [h0, tb_z x hx] at hb
      cases hb), fun _ _ _ => rfl, rfl⟩ (fun n z hn hI => by
    obtain ⟨a, h1⟩ := z
    dsimp only at hI
    obtain ⟨rfl, i2, i3, i4⟩ := hI
    have g1 : ¬ nI bx < nI (n + 1) := nI_nlt (by omega) (by omega)
    obtain ⟨⟨b, h2⟩, e, j1, j2, j3, j4, j5⟩ := lp_walk (f := fun z : Int32 × Hp => f6_shortest_67_s (nI bx) (nI (n + 1)) z.1 z.2) (fun u z => z.1 = nI u ∧ (∀ L x, L < n + 1 → x < 6 → sub L bx → tb L x = true → z.2.1 48 (6 * L + x) = nI (TJ A L x)) ∧ (∀ q k, q ≠ 48 → z.2.1 q k = h.1 q k) ∧ z.2.2 = h.2 ∧ ∀ x, x < u → sub (n + 1) bx → tb (n + 1) x = true → z.2.1 48 (6 * (n + 1) + x) = nI (TJ A (n + 1) x)) 6 (0, h1) ⟨rfl, i2, i3, i4, fun x hx => by omega⟩ (fun u z hu hI => by
      obtain ⟨b, h2⟩ := z
      dsimp only at hI
      obtain ⟨rfl, j2, j3, j4, j5⟩ := hI
      have si := sub_iff (L := n + 1) (bx := bx) (by omega) hbx
      have bi := bit1 (x := n + 1) (p := u) (by omega) (by omega)
      by_cases q1 : sub (n + 1) bx
      · by_cases q2 : tb (n + 1) u = true
        · obtain ⟨k1, k2, k3, k4⟩ := clr_all (n + 1) (by omega) u hu q2
          have fe := from_eq (h := h2) (x := u) (L := n + 1 - 2 ^ u) hA (fun i k hi hk => (j3 _ _ (by omega)).trans (h49 i k hi hk)) hu (by omega) (fun i hi hb => j2 _ i k2 hi (q1.clr (by omega) hu q2) hb)
          rw [← TJ_S (show n + 1 < 64 by omega) hu q2] at fe
          refine ⟨(nI (u + 1), wI h2 48 (6 * (n + 1) + u) (nI (TJ A (n + 1) u))), ?_, rfl, fun L x hL hx hs hb => ?_, fun q k n1 => (wI_o (by omega)).trans (j3 q k n1), j4, fun x hx hs hb => ?_⟩
          · simp only [f6_shortest_67_s, f6_shortest_118, g6 hu, if_false, si.mpr q1, if_true, bi.mpr q2, k1, fe, Option.bind_some, gd, six_k, inb_t (show 6 * (n + 1) + u < 384 by omega) (by omega), ix_nI (show 6 * (n + 1) + u < 2 ^ 31 by omega), lt, nI_1]
          · show (wI h2 48 (6 * (n + 1) + u) (nI (TJ A (n + 1) u))).1 48 (6 * L + x) = _
            rw [wI_o (by omega)]; exact j2 L x hL hx hs hb
          · show (wI h2 48 (6 * (n + 1) + u) (nI (TJ A (n + 1) u))).1 48 (6 * (n + 1) + x) = _
            by_cases z : x = u
            · rw [z, wI_s]
            · rw [wI_o (by omega)]; exact j5 x (by omega) hs hb
        · refine ⟨(nI (u + 1), h2), ?_, rfl, j2, j3, j4, fun x hx hs hb => ?_⟩
          · simp only [f6_shortest_67_s, f6_shortest_118, g6 hu, if_false, si.mpr q1, if_true, bi, q2, nI_1, Bool.false_eq_true]
          · by_cases z : x = u
            · rw [z] at hb; exact absurd hb q2
            · exact j5 x (by omega) hs hb
      · refine ⟨(nI (u + 1), h2), ?_, rfl, j2, j3, j4, fun x hx hs hb => absurd hs q1⟩
        have si' : ¬ (nI (n + 1) &&& (nI bx ^^^ (-1)) = 0) := fun z => q1 (si.mp z)
        simp only [f6_shortest_67_s, f6_shortest_118, g6 hu, if_false, si', nI_1])
    dsimp only at j1 j2 j3 j4 j5
    subst j1
    refine ⟨(nI (n + 1 + 1), h2), ?_, rfl, fun L x hL hx hs hb => ?_, j3, j4⟩
    · simp only [f6_shortest_59_s, g1, if_false, f6_shortest_67]
      show lp _ (0, h1) = _
      rw [e]
      refine lp_inr (o := some _) ?_
      simp only [f6_shortest_67_s, f6_shortest_124, l6, if_true, Option.map_some, nI_1]
    · by_cases z : L = n + 1
      · rw [z] at hs hb ⊢; exact j5 x hx hs hb
      · exact j2 L x (by omega) hx hs hb)
  dsimp only at i1 i2 i3 i4
  subst i1
  refine ⟨h1, ?_, fun L x hL hx hs hb => i2 L x (by have := sub_le hL hbx hs; omega) hx hs hb, i3, i4⟩
  rw [e]
  refine lp_inr ?_
  simp only [f6_shortest_59_s, nI_lt (show bx < bx + 1 by omega) (show bx + 1 < 2 ^ 31 by omega), if_true]
theorem row_ex {A : Nat → Nat → Nat} {bx : Nat} {len : Int32} (hA : ∀ i k, A i k ≤ 8) : ∀ (r L : Nat) (ah : Option Nat) (k : Nat) (h : Hp), L < 64 → sub L bx → cnt (tb L) 6 = r → k + r ≤ 6 → (∀ y, ah = some y → y < 6) → (∀ i k, i < 6 → k < 6 → h.1 49 (6 * i + k) = nI (A i k)) → tabF A bx h → ∃ h', lp (fun z : Int32 × Int32 × Int32 × Hp => f6_shortest_146_s len z.1 z.2.1 z.2.2.1 z.2.2.2) (eI ah, nI L, nI k, h) = some (len, h') ∧ (∀ j, j < r → h'.1 50 (k + j) = nI (bk A r L ah j)) ∧ (∀ j, j < k → h'.1 50 j = h.1 50 j) ∧ h'.1 47 3 = h.1 47 3 + nI r ∧ (∀ q j, q ≠ 50 → ¬ (q = 47 ∧ j = 3) → h'.1 q j = h.1 q j) ∧ h'.2 = h.2
  | 0, L, ah, k, h, hL, hs, hc, hk, hah, h49, ht => by
    have h0 := (z_all L hL).1 hc
    refine ⟨h, lp_inr (o := some _) ?_, fun j hj => by omega, fun _ _ => rfl, by rw [show nI 0 = 0 from rfl, Int32.add_zero], fun _ _ _ _ => rfl, rfl⟩
    simp only [f6_shortest_146_s, h0, show (nI 0 : Int32) = 0 from rfl, if_true, ite_self, Option.map_some]
  | r + 1, L, ah, k, h, hL, hs, hc, hk, hah, h49, ht => by
    have hLn : ¬ L = 0 := fun z => by have := (z_all L hL).2 z; omega
    obtain ⟨hn, -⟩ := of_eq (ah := ah) hA h49 hah hL (fun i hi hb => ht L i hL hi hs hb)
    rw [hc] at hn
    cases e : amd (Fj A (r + 1) L ah) L 6 with
    | none => have := (amd_none hL).mp e; omega
    | some b =>
      obtain ⟨a1, a2, a3, -⟩ := (amd_s 6 (Nat.le_refl 6)).2 b e
      rw [e, eI_s] at hn
      obtain ⟨k1, k2, k3, k4⟩ := clr_all L hL b a2 a3
      have hb : ∀ j, bk A (r + 1) L ah j = if j = 0 then b else bk A r (L - 2 ^ b) (some b) (j - 1) := fun j => by
        show (match amd (Fj A (r + 1) L ah) L 6 with | none => 0 | some b => if j = 0 then b else bk A r (L - 2 ^ b) (some b) (j - 1)) = _
        rw [e]
      obtain ⟨h1, e1⟩ : ∃ h1, h1 = wI (wI h 50 k (nI b)) 47 3 (h.1 47 3 + 1) := ⟨_, rfl⟩
      have o1 : ∀ q j, ¬ (q = 50 ∧ j = k) → ¬ (q = 47 ∧ j = 3) → h1.1 q j = h.1 q j := fun q j n1 n2 => by rw [e1, wI_o n2, wI_o n1]
      obtain ⟨h', e2, r1, r2, r3, r4, r5⟩ := row_ex hA r (L - 2 ^ b) (some b) (k + 1) h1 (by omega) (hs.clr hL a2 a3) (by omega) (by omega) (fun y hy => by have := Option.some.inj hy; omega) (fun i k hi hk => (o1 _ _ (by omega) (by omega)).trans (h49 i k hi hk)) (fun L x hL hx hs hb => (o1 _ _ (by omega) (by omega)).trans (ht L x hL hx hs hb))
      refine ⟨h', ?_, fun j hj => ?_, fun j hj => ?_, ?_, fun q j n1 n2 => ?_, ?_⟩
      · refine (lp_inl (f := fun z : Int32 × Int32 × Int32 × Hp => f6_shortest_146_s len z.1 z.2.1 z.2.2.1 z.2.2.2) (s := (eI ah, nI L, nI k, h)) (s' := (nI b, nI (L - 2 ^ b), nI (k + 1), h1)) ?_).trans e2
        have v : (wI h 50 k (nI b)).1 47 3 = h.1 47 3 := wI_o (by omega)
        simp only [f6_shortest_146_s, g6 (show k < 6 by omega), if_false, nI_ne0 (show 0 < L by omega) (show L < 2 ^ 31 by omega), hn, Option.bind_some, lt, k1, gd, inb_t (show k < 6 by omega) (by omega), ix_nI (show k < 2 ^ 31 by omega), if_true, v, ← e1, nI_1]
      · rw [hb j]
        by_cases q : j = 0
        · rw [if_pos q, q, r2 (k + 0) (by omega), e1, wI_o (by omega), show k + 0 = k by omega, wI_s]
        · rw [if_neg q, ← r1 (j - 1) (by omega), show k + 1 + (j - 1) = k + j by omega]
      · rw [r2 j (by omega), e1, wI_o (by omega), wI_o (by omega)]
      · rw [r3, e1, wI_s, Int32.add_assoc]
        congr 1
        rw [show (1 : Int32) = nI 1 from rfl, nI_add, Nat.add_comm]
      · rw [r4 q j n1 n2, o1 q j (by omega) n2]
      · rw [r5, e1]; rfl
theorem short_ex {c : Hp} {bx : Nat} (hbx : bx < 64) : ∃ h, f6_shortest (nI bx) c = some (if bx = 0 then 0 else nI (Vj (AE c) (cnt (tb bx) 6) bx none), h) ∧ (∀ j, j < cnt (tb bx) 6 → h.1 50 j = nI (bk (AE c) (cnt (tb bx) 6) bx none j)) ∧ h.1 47 3 = nI (cnt (tb bx) 6) ∧ frC c h := by
  obtain ⟨h1, e1, i1, i2, i3, i4⟩ := added_ex (c := c) (x := nI bx)
  obtain ⟨h2, e2, j1, j2, j3⟩ := table_ex (A := AE c) (h := h1) (AE_le c) hbx i1
  have h49 : ∀ i k, i < 6 → k < 6 → h2.1 49 (6 * i + k) = nI (AE c i k) := fun i k hi hk => (j2 _ _ (by omega)).trans (i1 i k hi hk)
  have h6 := cnt_le (tb bx) 6
  have ss : sub bx bx := fun j _ h => h
  obtain ⟨-, ho⟩ := of_eq (ah := none) (AE_le c) h49 (fun y hy => by cases hy) hbx (fun i hi hb => j1 bx i hbx hi ss hb)
  obtain ⟨h3, e3, r1, r2, r3, r4, r5⟩ := row_ex (len := if bx = 0 then 0 else nI (Vj (AE c) (cnt (tb bx) 6) bx none)) (AE_le c) (cnt (tb bx) 6) bx none 0 h2 hbx ss rfl (by omega) (fun y hy => by cases hy) h49 j1
  refine ⟨h3, ?_, fun j hj => ?_, ?_, ⟨fun q k n => ?_, ?_⟩⟩
  · rw [e1, e2]
    have ho : f6_shortestOf (-1) (nI bx) h2 = _ := ho
    simp only [f6_shortest_130, ho, Option.bind_some, f6_shortest_146]
    exact e3
  · have := r1 j hj
    rw [show 0 + j = j by omega] at this
    exact this
  · rw [r3, j2 _ _ (by omega), i2, Int32.zero_add]
  · unfold scrC at n
    rw [r4 q k (by omega) (by omega), j2 q k (by omega), i3 q k (by omega) (by omega)]
  · rw [r5, j3, i4]
