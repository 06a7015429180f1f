/-! line: the class. -/
theorem and_nI {a b : Nat} (ha : a < 64) (hb : b < 64) : nI a &&& nI b = nI (a &&& b) := by
  apply Int32.toBitVec_inj.mp
  apply BitVec.eq_of_toNat_eq
  show (BitVec.ofNat 32 a &&& BitVec.ofNat 32 b).toNat = (BitVec.ofNat 32 (a &&& b)).toNat
  have := and_lt64 (b := b) ha
  rw [BitVec.toNat_and, BitVec.toNat_ofNat, BitVec.toNat_ofNat, BitVec.toNat_ofNat, Nat.mod_eq_of_lt (show a < 2 ^ 32 by omega), Nat.mod_eq_of_lt (show b < 2 ^ 32 by omega), Nat.mod_eq_of_lt (show a &&& b < 2 ^ 32 by omega)]
theorem lnext_eq {h : Hp} {ch L : Nat} {T : Nat → Nat} (hL : L < 64) (hch : ch < 64) (hv : ∀ i, i < 6 → tb ch i = true → h.1 48 (6 * L + i) = nI (T i)) (hT : ∀ i, i < 6 → tb ch i = true → T i ≤ 6) : f6_longestNext (nI ch) (nI L) h = some (eI (amd (fun i => 6 - T i) ch 6)) := by
  unfold f6_longestNext f6_longestNext_5
  refine lp_for1 (f := fun z : Int32 × Int32 => f6_longestNext_5_s (nI ch) (nI L) z.1 z.2 h) (fun k => (eI (amd (fun i => 6 - T i) ch k), dn (6 - k))) 6 (fun k hk => ?_) ?_
  · have e1 : dn (6 - k) = nI (5 - k) := by rw [show 6 - k = 5 - k + 1 by omega]; exact dn_S (5 - k)
    have e2 : nI (5 - k) + (-1) = dn (6 - (k + 1)) := by rw [show 6 - (k + 1) = 5 - k by omega]; exact dn_step (5 - k)
    have b := bit1 (x := ch) (p := 5 - k) (by omega) (by omega)
    simp only [e1, f6_longestNext_5_s, f6_longestNext_51, f6_longestNext_54, nI_pos (show 5 - k < 2 ^ 31 by omega), if_false, b, e2]
    show _ = some (Sum.inl (eI (if tb ch (5 - k) then (match amd (fun i => 6 - T i) ch k with | none => some (5 - k) | some j => if 6 - T j < 6 - T (5 - k) then some j else some (5 - k)) else amd (fun i => 6 - T i) ch k), dn (6 - (k + 1))))
    cases q : tb ch (5 - k) with
    | false => simp only [Bool.false_eq_true, if_false]
    | true =>
      simp only [if_true]
      cases ho : amd (fun i => 6 - T i) ch k with
      | none => simp only [eI_n, eI_s, if_true]
      | some j =>
        obtain ⟨a1, a2, a3, -⟩ := (amd_s k (by omega)).2 j ho
        have h1 := hT j a2 a3
        have h2 := hT (5 - k) (by omega) q
        simp only [eI_s, m1_ne (show j < 2 ^ 31 by omega), if_false, gd, six_k, inb_t (show 6 * L + (5 - k) < 384 by omega) (by omega), inb_t (show 6 * L + j < 384 by omega) (by omega), ix_nI (show 6 * L + (5 - k) < 2 ^ 31 by omega), ix_nI (show 6 * L + j < 2 ^ 31 by omega), if_true, hv _ (show 5 - k < 6 by omega) q, hv _ a2 a3]
        by_cases z : T (5 - k) < T j
        · rw [if_pos (nI_lt z (by omega)), if_pos (by omega)]; rfl
        · rw [if_neg (nI_nlt (show T j ≤ T (5 - k) by omega) (by omega)), if_neg (by omega)]; rfl
  · simp only [f6_longestNext_5_s, show (dn (6 - 6) < 0) = True from by decide, if_true]
def BL (K : Nat → Nat) (L x : Nat) : Nat := Bl K (cnt (tb L) 6) L x
theorem BL_S {K : Nat → Nat} {L x : Nat} (hL : L < 64) (hx : x < 6) (hb : tb L x = true) : BL K L x = 1 + Wl K (cnt (tb (L - 2 ^ x)) 6) (L - 2 ^ x) (some x) := by
  unfold BL
  rw [← (clr hL hx hb).2.1, Bl_S]
theorem BL_le {K : Nat → Nat} {L x : Nat} (hL : L < 64) (hx : x < 6) (hb : tb L x = true) : BL K L x ≤ 6 := by
  have h1 := Bl_le (K := K) (cnt (tb L) 6) L x hL hx hb rfl
  have h2 := cnt_le (tb L) 6
  unfold BL
  omega
theorem ln_eq {K : Nat → Nat} {h : Hp} {L : Nat} {bf : Option Nat} (hL : L < 64) (ht : ∀ i, i < 6 → tb L i = true → h.1 48 (6 * L + i) = nI (BL K L i)) : f6_longestNext (nI (chO K bf L)) (nI L) h = some (eI (amd (Fk K (cnt (tb L) 6) L) (chO K bf L) 6)) :=
  lnext_eq (T := BL K L) hL (ch_lt hL) (fun i hi hb => ht i hi (ch_in hb)) (fun i hi hb => BL_le hL hi (ch_in hb))
theorem all_N : ∀ n, n ≤ 6 → 2 ^ n - 1 < 64 ∧ 1 ≤ 2 ^ n ∧ cnt (tb (2 ^ n - 1)) 6 = n ∧ ∀ b, b < n → tb (2 ^ n - 1) b = true := by decide +kernel
theorem ltable_ex {S : Sp} {c : Hp} (w : wfNow S) (hC : nowC S c) : ∃ h, f6_longest 6 c = f6_longest_118 6 (nI (2 ^ S 0 0 - 1)) h ∧ (∀ L x, L ≤ 2 ^ S 0 0 - 1 → x < 6 → tb L x = true → h.1 48 (6 * L + x) = nI (BL (S 5) L x)) ∧ (∀ q k, q ≠ 48 → h.1 q k = c.1 q k) ∧ h.2 = c.2 := by
  have hn := w.1
  obtain ⟨hs, hs64⟩ := sh_all (S 0 0) hn
  obtain ⟨n1, n2, n3, n4⟩ := all_N (S 0 0) hn
  have ea : (nI (2 ^ S 0 0) - 1 : Int32) = nI (2 ^ S 0 0 - 1) := by rw [show (1 : Int32) = nI 1 from rfl]; exact pk_sub n2
  simp only [f6_longest, hC.1, hs, ea, lt, f6_longest_11]
  generalize hall : 2 ^ S 0 0 - 1 = all at *
  have hin : ∀ L, L ≤ all → ∀ i, i < 6 → tb L i = true → i < S 0 0 := fun L hL i hi hb => by
    rcases Nat.lt_or_ge i (S 0 0) with z | z
    · exact z
    · rw [hi_all (S 0 0) hn L (by omega) (by omega) i hi z] at hb; cases hb
  obtain ⟨⟨a, h⟩, e, i1, i2, i3, i4⟩ := lp_walk (f := fun z : Int32 × Hp => f6_longest_11_s 6 (nI all) z.1 z.2) (fun k z => z.1 = nI (k + 1) ∧ (∀ L x, L < k + 1 → x < 6 → tb L x = true → z.2.1 48 (6 * L + x) = nI (BL (S 5) L x)) ∧ (∀ q k, q ≠ 48 → z.2.1 q k = c.1 q k) ∧ z.2.2 = c.2) all (1, c) ⟨rfl, fun L x hL hx hb => (by
      have h0 : L = 0 := by omega
      rw [h0, tb_z x hx] at hb
      cases hb), fun _ _ _ => rfl, rfl⟩ (fun k z hk hI => by
    obtain ⟨a, h⟩ := z
    dsimp only at hI
    obtain ⟨rfl, i2, i3, i4⟩ := hI
    have g1 : ¬ nI all < nI (k + 1) := nI_nlt (by omega) (by omega)
    obtain ⟨⟨b, h2⟩, e, j1, j2, j3, j4, j5⟩ := lp_walk (f := fun z : Int32 × Hp => f6_longest_19_s 6 (nI all) (nI (k + 1)) z.1 z.2) (fun u z => z.1 = nI u ∧ (∀ L x, L < k + 1 → x < 6 → tb L x = true → z.2.1 48 (6 * L + x) = nI (BL (S 5) L x)) ∧ (∀ q k, q ≠ 48 → z.2.1 q k = c.1 q k) ∧ z.2.2 = c.2 ∧ ∀ x, x < u → tb (k + 1) x = true → z.2.1 48 (6 * (k + 1) + x) = nI (BL (S 5) (k + 1) x)) (S 0 0) (0, h) ⟨rfl, i2, i3, i4, fun x hx => by omega⟩ (fun u z hu hI => by
      obtain ⟨b, h2⟩ := z
      dsimp only at hI
      obtain ⟨rfl, j2, j3, j4, j5⟩ := hI
      have v1 : h2.1 6 1 = nI (S 0 0) := (j3 _ _ (by omega)).trans hC.1
      have bi := bit1 (x := k + 1) (p := u) (by omega) (by omega)
      by_cases q2 : tb (k + 1) u = true
      · obtain ⟨k1, k2, k3, k4⟩ := clr_all (k + 1) (by omega) u (by omega) q2
        have vk : h2.1 (8 + 2 * u) 4 = nI (S 5 u) := (j3 _ _ (by omega)).trans (hC.2.2.2.2 u hu).2.2.1
        have w5 := (w.2.2.2.2 u hu).2.2.2.2.1
        have ln := ln_eq (K := S 5) (h := h2) (L := k + 1 - 2 ^ u) (bf := some u) (by omega) (fun i hi hb => j2 _ i k2 hi hb)
        have ln : f6_longestNext (nI ((k + 1 - 2 ^ u) &&& S 5 u)) (nI (k + 1 - 2 ^ u)) h2 = some (eI (amd (Fk (S 5) (cnt (tb (k + 1 - 2 ^ u)) 6) (k + 1 - 2 ^ u)) (chO (S 5) (some u) (k + 1 - 2 ^ u)) 6)) := ln
        have fin : ∀ h', h' = wI h2 48 (6 * (k + 1) + u) (nI (BL (S 5) (k + 1) u)) → f6_longest_19_s 6 (nI all) (nI (k + 1)) (nI u) h2 = some (.inl (nI (u + 1), h')) := by
          intro h' eh
          subst eh
          rw [BL_S (show k + 1 < 64 by omega) (show u < 6 by omega) q2]
          simp only [f6_longest_19_s, f6_longest_105, f6_longest_106, v1, nI_ge hu (show S 0 0 < 2 ^ 31 by omega), if_false, bi.mpr q2, if_true, lt, k1, gd, inb_t (show u < 6 by omega) (by omega), ix_nI (show u < 2 ^ 31 by omega), vk, and_nI (show k + 1 - 2 ^ u < 64 by omega) w5, ln, Option.bind_some, six_k, inb_t (show 6 * (k + 1) + u < 384 by omega) (by omega), ix_nI (show 6 * (k + 1) + u < 2 ^ 31 by omega), nI_1]
          cases eo : amd (Fk (S 5) (cnt (tb (k + 1 - 2 ^ u)) 6) (k + 1 - 2 ^ u)) (chO (S 5) (some u) (k + 1 - 2 ^ u)) 6 with
          | none =>
            rw [Wl_n eo]
            simp only [eI_n, if_true]; rfl
          | some bb =>
            obtain ⟨a1, a2, a3, -⟩ := (amd_s 6 (Nat.le_refl 6)).2 bb eo
            have hv := j2 (k + 1 - 2 ^ u) bb k2 a2 (ch_in a3)
            have hW : Wl (S 5) (cnt (tb (k + 1 - 2 ^ u)) 6) (k + 1 - 2 ^ u) (some u) = BL (S 5) (k + 1 - 2 ^ u) bb := by unfold Wl; rw [eo]; rfl
            rw [hW]
            simp only [eI_s, m1_ne (show bb < 2 ^ 31 by omega), if_false, six_k, inb_t (show 6 * (k + 1 - 2 ^ u) + bb < 384 by omega) (by omega), ix_nI (show 6 * (k + 1 - 2 ^ u) + bb < 2 ^ 31 by omega), if_true, hv, show (1 + nI (BL (S 5) (k + 1 - 2 ^ u) bb) : Int32) = nI (1 + BL (S 5) (k + 1 - 2 ^ u) bb) from by rw [show (1 : Int32) = nI 1 from rfl, nI_add]]
        refine ⟨_, fin _ rfl, rfl, fun L x hL hx hb => ?_, fun q k n1 => (wI_o (by omega)).trans (j3 q k n1), j4, fun x hx hb => ?_⟩
        · show (wI h2 48 (6 * (k + 1) + u) (nI (BL (S 5) (k + 1) u))).1 48 (6 * L + x) = _
          rw [wI_o (by omega)]; exact j2 L x hL hx hb
        · show (wI h2 48 (6 * (k + 1) + u) (nI (BL (S 5) (k + 1) u))).1 48 (6 * (k + 1) + x) = _
          by_cases z : x = u
          · rw [z, wI_s]
          · rw [wI_o (by omega)]; exact j5 x (by omega) hb
      · refine ⟨(nI (u + 1), h2), ?_, rfl, j2, j3, j4, fun x hx hb => ?_⟩
        · simp only [f6_longest_19_s, f6_longest_106, v1, nI_ge hu (show S 0 0 < 2 ^ 31 by omega), if_false, bi, q2, nI_1, Bool.false_eq_true]
        · by_cases z : x = u
          · rw [z] at hb; exact absurd hb q2
          · exact j5 x (by omega) hb)
    dsimp only at j1 j2 j3 j4 j5
    subst j1
    refine ⟨(nI (k + 1 + 1), h2), ?_, rfl, fun L x hL hx hb => ?_, j3, j4⟩
    · simp only [f6_longest_11_s, g1, if_false, f6_longest_19]
      show lp _ (0, h) = _
      rw [e]
      refine lp_inr (o := some _) ?_
      simp only [f6_longest_19_s, f6_longest_112, (j3 6 1 (by omega)).trans hC.1, nI_le (Nat.le_refl (S 0 0)) (show S 0 0 < 2 ^ 31 by omega), if_true, Option.map_some, nI_1]
    · by_cases z : L = k + 1
      · rw [z] at hb ⊢; exact j5 x (hin (k + 1) (by omega) x hx hb) hb
      · exact j2 L x (by omega) hx hb)
  dsimp only at i1 i2 i3 i4
  subst i1
  refine ⟨h, ?_, fun L x hL hx hb => i2 L x (by omega) hx hb, i3, i4⟩
  rw [e]
  refine lp_inr ?_
  simp only [f6_longest_11_s, nI_lt (show all < all + 1 by omega) (show all + 1 < 2 ^ 31 by omega), if_true]
theorem rowL_ex {S : Sp} {all : Nat} (w : wfNow S) (hall : all = 2 ^ S 0 0 - 1) : ∀ (R L : Nat) (bf : Option Nat) (k : Nat) (h : Hp), L ≤ all → cnt (tb L) 6 = R → k + R ≤ 6 → (∀ i, i < S 0 0 → h.1 (8 + 2 * i) 4 = nI (S 5 i)) → (∀ L x, L ≤ all → x < 6 → tb L x = true → h.1 48 (6 * L + x) = nI (BL (S 5) L x)) → ∃ h', lp (fun z : Int32 × Int32 × Int32 × Hp => f6_longest_136_s 6 z.1 z.2.1 z.2.2.1 z.2.2.2) (nI L, eI (amd (Fk (S 5) R L) (chO (S 5) bf L) 6), nI k, h) = some h' ∧ (∀ j, j < Wl (S 5) R L bf → h'.1 50 (k + j) = nI (lk (S 5) R L bf j)) ∧ (∀ j, j < k → h'.1 50 j = h.1 50 j) ∧ h'.1 47 3 = h.1 47 3 + nI (Wl (S 5) R L bf) ∧ (∀ q j, q ≠ 50 → ¬ (q = 47 ∧ j = 3) → h'.1 q j = h.1 q j) ∧ h'.2 = h.2 := by
  have hn := w.1
  obtain ⟨n1, n2, n3, n4⟩ := all_N (S 0 0) hn
  rw [← hall] at n1
  intro R
  induction R with
  | zero =>
    intro L bf k h hL hc hk hK ht
    have hW := Wl_0 (K := S 5) (r := 0) (bf := bf) (show L < 64 by omega) hc
    have e : amd (Fk (S 5) 0 L) (chO (S 5) bf L) 6 = none := by
      cases q : amd (Fk (S 5) 0 L) (chO (S 5) bf L) 6 with
      | none => rfl
      | some b =>
        obtain ⟨a1, a2, a3, -⟩ := (amd_s 6 (Nat.le_refl 6)).2 b q
        have := ch_in a3
        rw [(z_all L (by omega)).1 hc, tb_z b a2] at this; cases this
    rw [e, hW]
    refine ⟨h, lp_inr (o := some _) ?_, fun j hj => by omega, fun _ _ => rfl, by rw [show nI 0 = 0 from rfl, Int32.add_zero], fun _ _ _ _ => rfl, rfl⟩
    simp only [f6_longest_136_s, eI_n, if_true, ite_self, Option.map_some]
  | succ R ih =>
    intro L bf k h hL hc hk hK ht
    cases e : amd (Fk (S 5) (R + 1) L) (chO (S 5) bf L) 6 with
    | none =>
      rw [Wl_n e]
      refine ⟨h, lp_inr (o := some _) ?_, fun j hj => by omega, fun _ _ => rfl, by rw [show nI 0 = 0 from rfl, Int32.add_zero], fun _ _ _ _ => rfl, rfl⟩
      simp only [f6_longest_136_s, eI_n, if_true, ite_self, Option.map_some]
    | some b =>
      obtain ⟨a1, a2, a3, -⟩ := (amd_s 6 (Nat.le_refl 6)).2 b e
      have hb := ch_in a3
      have hbN : b < S 0 0 := by
        rcases Nat.lt_or_ge b (S 0 0) with z | z
        · exact z
        · rw [hi_all (S 0 0) hn L (by omega) (by omega) b a2 z] at hb; cases hb
      obtain ⟨k1, k2, k3, k4⟩ := clr_all L (by omega) b a2 hb
      obtain ⟨h1, e1⟩ : ∃ h1, h1 = wI (wI h 50 k (nI b)) 47 3 (h.1 47 3 + 1) := ⟨_, rfl⟩
      have o1 : ∀ q j, ¬ (q = 50 ∧ j = k) → ¬ (q = 47 ∧ j = 3) → h1.1 q j = h.1 q j := fun q j n1 n2 => by rw [e1, wI_o n2, wI_o n1]
      have ht1 : ∀ L x, L ≤ all → x < 6 → tb L x = true → h1.1 48 (6 * L + x) = nI (BL (S 5) L x) := fun L x hL hx hb => (o1 _ _ (by omega) (by omega)).trans (ht L x hL hx hb)
      have hK1 : ∀ i, i < S 0 0 → h1.1 (8 + 2 * i) 4 = nI (S 5 i) := fun i hi => (o1 _ _ (by omega) (by omega)).trans (hK i hi)
      obtain ⟨h', e2, r1, r2, r3, r4, r5⟩ := ih (L - 2 ^ b) (some b) (k + 1) h1 (by omega) (by omega) (by omega) hK1 ht1
      have ln := ln_eq (K := S 5) (h := h1) (L := L - 2 ^ b) (bf := some b) (by omega) (fun i hi hb => ht1 _ i (by omega) hi hb)
      rw [show cnt (tb (L - 2 ^ b)) 6 = R by omega] at ln
      have ln : f6_longestNext (nI ((L - 2 ^ b) &&& S 5 b)) (nI (L - 2 ^ b)) h1 = some (eI (amd (Fk (S 5) R (L - 2 ^ b)) (chO (S 5) (some b) (L - 2 ^ b)) 6)) := ln
      have w5 := (w.2.2.2.2 b hbN).2.2.2.2.1
      rw [Wl_S e]
      refine ⟨h', ?_, fun j hj => ?_, fun j hj => ?_, ?_, fun q j n1 n2 => ?_, ?_⟩
      · refine (lp_inl (f := fun z : Int32 × Int32 × Int32 × Hp => f6_longest_136_s 6 z.1 z.2.1 z.2.2.1 z.2.2.2) (s := (nI L, eI (some b), nI k, h)) (s' := (nI (L - 2 ^ b), eI (amd (Fk (S 5) R (L - 2 ^ b)) (chO (S 5) (some b) (L - 2 ^ b)) 6), nI (k + 1), h1)) ?_).trans e2
        have v : (wI h 50 k (nI b)).1 47 3 = h.1 47 3 := wI_o (by omega)
        simp only [f6_longest_136_s, g6 (show k < 6 by omega), if_false, eI_s, m1_ne (show b < 2 ^ 31 by omega), lt, k1, gd, inb_t (show k < 6 by omega) (by omega), ix_nI (show k < 2 ^ 31 by omega), if_true, v, ← e1, inb_t (show b < 6 by omega) (by omega), ix_nI (show b < 2 ^ 31 by omega), hK1 b hbN, and_nI (show L - 2 ^ b < 64 by omega) w5, ln, Option.bind_some, nI_1]
      · rw [lk_S e]
        by_cases q : j = 0
        · rw [if_pos q, q, r2 (k + 0) (by omega), e1, wI_o (by omega), show k + 0 = k by omega, wI_s]
        · rw [if_neg q, ← r1 (j - 1) (by omega), show k + 1 + (j - 1) = k + j by omega]
      · rw [r2 j (by omega), e1, wI_o (by omega), wI_o (by omega)]
      · rw [r3, e1, wI_s, Int32.add_assoc, show (1 : Int32) = nI 1 from rfl, nI_add]
      · rw [r4 q j n1 n2, o1 q j (by omega) n2]
      · rw [r5, e1]; rfl
theorem long_ex {S : Sp} {c : Hp} (w : wfNow S) (hC : nowC S c) : ∃ h, f6_longest 6 c = some h ∧ (∀ j, j < Wl (S 5) (S 0 0) (2 ^ S 0 0 - 1) none → h.1 50 j = nI (lk (S 5) (S 0 0) (2 ^ S 0 0 - 1) none j)) ∧ h.1 47 3 = nI (Wl (S 5) (S 0 0) (2 ^ S 0 0 - 1) none) ∧ frC c h := by
  have hn := w.1
  obtain ⟨n1, n2, n3, n4⟩ := all_N (S 0 0) hn
  obtain ⟨h1, e1, t1, o1, s1⟩ := ltable_ex w hC
  obtain ⟨h2, e2⟩ : ∃ h2, h2 = wI h1 47 3 0 := ⟨_, rfl⟩
  have o2 : ∀ q k, ¬ (q = 47 ∧ k = 3) → h2.1 q k = h1.1 q k := fun q k n => by rw [e2]; exact wI_o n
  have t2 : ∀ L x, L ≤ 2 ^ S 0 0 - 1 → x < 6 → tb L x = true → h2.1 48 (6 * L + x) = nI (BL (S 5) L x) := fun L x hL hx hb => (o2 _ _ (by omega)).trans (t1 L x hL hx hb)
  have ln := ln_eq (K := S 5) (h := h2) (L := 2 ^ S 0 0 - 1) (bf := none) n1 (fun i hi hb => t2 _ i (Nat.le_refl _) hi hb)
  rw [n3] at ln
  have ln : f6_longestNext (nI (2 ^ S 0 0 - 1)) (nI (2 ^ S 0 0 - 1)) h2 = some (eI (amd (Fk (S 5) (S 0 0) (2 ^ S 0 0 - 1)) (chO (S 5) none (2 ^ S 0 0 - 1)) 6)) := ln
  obtain ⟨h3, e3, r1, r2, r3, r4, r5⟩ := rowL_ex w rfl (S 0 0) (2 ^ S 0 0 - 1) none 0 h2 (Nat.le_refl _) n3 (by omega) (fun i hi => (o2 _ _ (by omega)).trans ((o1 _ _ (by omega)).trans (hC.2.2.2.2 i hi).2.2.1)) t2
  refine ⟨h3, ?_, fun j hj => ?_, ?_, ⟨fun q k n => ?_, ?_⟩⟩
  · rw [e1]
    simp only [f6_longest_118, lt, ← e2, ln, Option.bind_some, f6_longest_136]
    exact e3
  · have := r1 j hj
    rw [show 0 + j = j by omega] at this
    exact this
  · rw [r3, e2, wI_s, Int32.zero_add]
  · unfold scrC at n
    rw [r4 q k (by omega) (by omega), o2 q k (by omega), o1 q k (by omega)]
  · rw [r5, e2]
    show h1.2.2 = _
    rw [s1]
