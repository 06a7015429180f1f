/-! line: the longest line of kin. -/
theorem tb_tb (x p : Nat) : tb x p = x.testBit p := by
  unfold tb
  rw [Nat.testBit_eq_decide_div_mod_eq]
theorem tb_and (a b p : Nat) : tb (a &&& b) p = (tb a p && tb b p) := by rw [tb_tb, tb_tb, tb_tb, Nat.testBit_and]
theorem and_lt64 {a b : Nat} (h : a < 64) : a &&& b < 64 := Nat.lt_of_le_of_lt Nat.and_le_left h
/-- the longest line that begins with x in the r boxes L -/
def Bl (K : Nat → Nat) : Nat → Nat → Nat → Nat
  | 0, _, _ => 1
  | r + 1, L, x => match amd (fun i => 6 - Bl K r (L - 2 ^ x) i) ((L - 2 ^ x) &&& K x) 6 with
    | none => 1
    | some b => 1 + Bl K r (L - 2 ^ x) b
def chO (K : Nat → Nat) (bf : Option Nat) (L : Nat) : Nat := match bf with
  | none => L
  | some p => L &&& K p
def Fk (K : Nat → Nat) (r L i : Nat) : Nat := 6 - Bl K r L i
def Wl (K : Nat → Nat) (r L : Nat) (bf : Option Nat) : Nat := match amd (Fk K r L) (chO K bf L) 6 with
  | none => 0
  | some b => Bl K r L b
theorem Bl_S (K : Nat → Nat) (r L x : Nat) : Bl K (r + 1) L x = 1 + Wl K r (L - 2 ^ x) (some x) := by
  show (match amd (Fk K r (L - 2 ^ x)) (chO K (some x) (L - 2 ^ x)) 6 with | none => 1 | some b => 1 + Bl K r (L - 2 ^ x) b) = 1 + (match amd (Fk K r (L - 2 ^ x)) (chO K (some x) (L - 2 ^ x)) 6 with | none => 0 | some b => Bl K r (L - 2 ^ x) b)
  cases amd (Fk K r (L - 2 ^ x)) (chO K (some x) (L - 2 ^ x)) 6 <;> rfl
theorem ch_lt {K : Nat → Nat} {bf : Option Nat} {L : Nat} (hL : L < 64) : chO K bf L < 64 := by
  cases bf with
  | none => exact hL
  | some p => exact and_lt64 hL
theorem ch_in {K : Nat → Nat} {bf : Option Nat} {L i : Nat} (h : tb (chO K bf L) i = true) : tb L i = true := by
  cases bf with
  | none => exact h
  | some p =>
    have h : tb (L &&& K p) i = true := h
    rw [tb_and, Bool.and_eq_true] at h
    exact h.1
theorem Bl_pos (K : Nat → Nat) : ∀ r L x, 1 ≤ Bl K r L x
  | 0, _, _ => Nat.le_refl 1
  | r + 1, L, x => by rw [Bl_S]; omega
theorem Bl_le {K : Nat → Nat} : ∀ r L x, L < 64 → x < 6 → tb L x = true → cnt (tb L) 6 = r → Bl K r L x ≤ r
  | 0, L, x, hL, hx, hb, hc => by
    have := (z_all L hL).1 hc
    rw [this, tb_z x hx] at hb; cases hb
  | r + 1, L, x, hL, hx, hb, hc => by
    obtain ⟨c1, c2, c3⟩ := clr hL hx hb
    rw [Bl_S]
    unfold Wl
    split
    · omega
    · rename_i b e
      obtain ⟨a1, a2, a3, -⟩ := (amd_s 6 (Nat.le_refl 6)).2 b e
      have := Bl_le (K := K) r (L - 2 ^ x) b c1 a2 (ch_in a3) (by omega)
      omega
def kO (K : Nat → Nat) (bf : Option Nat) (b : Nat) : Bool := match bf with
  | none => true
  | some p => tb (K p) b
def il (K : Nat → Nat) (N : Nat) : Nat → Nat → Nat → Option Nat → Bool
  | 0, _, _, _ => true
  | r + 1, x, had, bf => if tb had (x / N ^ r % N) = true then false else if kO K bf (x / N ^ r % N) = true then il K N r x (had + 2 ^ (x / N ^ r % N)) (some (x / N ^ r % N)) else false
def glc (K : Nat → Nat) (N : Nat) : Nat → Nat → Option Nat → Nat
  | 0, _, _ => 0
  | r + 1, L, bf => match amd (Fk K (r + 1) L) (chO K bf L) 6 with
    | none => 0
    | some b => b * N ^ Wl K r (L - 2 ^ b) (some b) + glc K N r (L - 2 ^ b) (some b)
def lk (K : Nat → Nat) : Nat → Nat → Option Nat → Nat → Nat
  | 0, _, _, _ => 0
  | r + 1, L, bf, k => match amd (Fk K (r + 1) L) (chO K bf L) 6 with
    | none => 0
    | some b => if k = 0 then b else lk K r (L - 2 ^ b) (some b) (k - 1)
def inN (L N : Nat) : Prop := ∀ j, j < 6 → tb L j = true → j < N
def relN (N L had : Nat) : Prop := ∀ b, b < N → tb had b = !tb L b
section LINES
variable {K : Nat → Nat} {N : Nat}
theorem inN.clr {L i : Nat} (h : inN L N) (hL : L < 64) (hi : i < 6) (hb : tb L i = true) : inN (L - 2 ^ i) N := by
  intro j hj hj2
  rw [(clr_all L hL i hi hb).2.2.2 j hj, Bool.and_eq_true] at hj2
  exact h j hj hj2.1
theorem Wl_0 {L : Nat} {bf : Option Nat} {r : Nat} (hL : L < 64) (hc : cnt (tb L) 6 = 0) : Wl K r L bf = 0 := by
  have e : amd (Fk K r L) (chO K bf L) 6 = none := (amd_none (ch_lt hL)).mpr (by
    have : cnt (tb (chO K bf L)) 6 = cnt (fun _ => false) 6 := cnt_congr (fun i hi => by
      cases q : tb (chO K bf L) i with
      | false => rfl
      | true =>
        have := ch_in q
        rw [(z_all L hL).1 hc, tb_z i hi] at this; cases this)
    rw [this]; rfl)
  unfold Wl
  rw [e]
theorem Wl_S {L b r : Nat} {bf : Option Nat} (e : amd (Fk K (r + 1) L) (chO K bf L) 6 = some b) : Wl K (r + 1) L bf = 1 + Wl K r (L - 2 ^ b) (some b) := by
  rw [← Bl_S]
  unfold Wl
  rw [e]
theorem glc_S {L b r : Nat} {bf : Option Nat} (e : amd (Fk K (r + 1) L) (chO K bf L) 6 = some b) : glc K N (r + 1) L bf = b * N ^ Wl K r (L - 2 ^ b) (some b) + glc K N r (L - 2 ^ b) (some b) := by
  show (match amd (Fk K (r + 1) L) (chO K bf L) 6 with | none => 0 | some b => b * N ^ Wl K r (L - 2 ^ b) (some b) + glc K N r (L - 2 ^ b) (some b)) = _
  rw [e]
theorem glc_n {L r : Nat} {bf : Option Nat} (e : amd (Fk K (r + 1) L) (chO K bf L) 6 = none) : glc K N (r + 1) L bf = 0 := by
  show (match amd (Fk K (r + 1) L) (chO K bf L) 6 with | none => 0 | some b => b * N ^ Wl K r (L - 2 ^ b) (some b) + glc K N r (L - 2 ^ b) (some b)) = _
  rw [e]
theorem lk_S {L b r : Nat} {bf : Option Nat} (e : amd (Fk K (r + 1) L) (chO K bf L) 6 = some b) (k : Nat) : lk K (r + 1) L bf k = if k = 0 then b else lk K r (L - 2 ^ b) (some b) (k - 1) := by
  show (match amd (Fk K (r + 1) L) (chO K bf L) 6 with | none => 0 | some b => if k = 0 then b else lk K r (L - 2 ^ b) (some b) (k - 1)) = _
  rw [e]
theorem Wl_n {L r : Nat} {bf : Option Nat} (e : amd (Fk K r L) (chO K bf L) 6 = none) : Wl K r L bf = 0 := by
  unfold Wl
  rw [e]
theorem glc_lt (hN : 0 < N) : ∀ R L bf, L < 64 → inN L N → glc K N R L bf < N ^ Wl K R L bf
  | 0, L, bf, _, _ => Nat.pow_pos hN
  | R + 1, L, bf, hL, hi => by
    cases e : amd (Fk K (R + 1) L) (chO K bf L) 6 with
    | none => rw [glc_n e]; exact Nat.pow_pos hN
    | some b =>
      obtain ⟨a1, a2, a3, -⟩ := (amd_s 6 (Nat.le_refl 6)).2 b e
      have hb := ch_in a3
      have ih := glc_lt hN R (L - 2 ^ b) (some b) (clr hL a2 hb).1 (hi.clr hL a2 hb)
      have hbN := hi b a2 hb
      rw [glc_S e, Wl_S e, Nat.add_comm 1, Nat.pow_succ, Nat.mul_comm (N ^ Wl K R (L - 2 ^ b) (some b))]
      have k := Nat.mul_le_mul_right (N ^ Wl K R (L - 2 ^ b) (some b)) (show b + 1 ≤ N by omega)
      rw [Nat.add_mul, Nat.one_mul] at k
      omega
theorem relN_clr {L had b : Nat} (hN6 : N ≤ 6) (hL : L < 64) (hh : had < 64) (hr : relN N L had) (hb : b < N) (h : tb had b = false) : tb L b = true ∧ had + 2 ^ b < 64 ∧ relN N (L - 2 ^ b) (had + 2 ^ b) := by
  have e := hr b hb
  rw [h] at e
  have hLb : tb L b = true := by
    cases q : tb L b with
    | true => rfl
    | false => rw [q] at e; cases e
  obtain ⟨-, b2, -, b4⟩ := bset_all had hh b (by omega) h
  refine ⟨hLb, b2, fun j hj => ?_⟩
  rw [b4 j (by omega), (clr hL (by omega) hLb).2.2 j (by omega), hr j hj]
  by_cases q : j = b
  · subst q; simp
  · simp [q]
theorem lines_ge (hN : 0 < N) (hN6 : N ≤ 6) : ∀ r R L had bf x, L < 64 → inN L N → cnt (tb L) 6 = R → had < 64 → relN N L had → il K N r x had bf = true → r ≤ Wl K R L bf ∧ (r = Wl K R L bf → glc K N R L bf ≤ x % N ^ r)
  | 0, R, L, had, bf, x, hL, hi, hc, hh, hr, h => by
    refine ⟨Nat.zero_le _, fun z => ?_⟩
    have gl := glc_lt (K := K) hN R L bf hL hi
    rw [← z] at gl
    have gl : glc K N R L bf < 1 := gl
    exact Nat.le_trans (show glc K N R L bf ≤ 0 by omega) (Nat.zero_le _)
  | r + 1, R, L, had, bf, x, hL, hi, hc, hh, hr, h => by
    have hd : x / N ^ r % N < N := Nat.mod_lt _ hN
    have hx : x % N ^ (r + 1) = x % N ^ r + N ^ r * (x / N ^ r % N) := by rw [Nat.pow_succ]; exact Nat.mod_mul
    have h : (if tb had (x / N ^ r % N) = true then false else if kO K bf (x / N ^ r % N) = true then il K N r x (had + 2 ^ (x / N ^ r % N)) (some (x / N ^ r % N)) else false) = true := h
    rw [hx]
    generalize x / N ^ r % N = b' at *
    cases q : tb had b' with
    | true => rw [q, if_pos rfl] at h; cases h
    | false =>
      rw [q, if_neg (show ¬ (false = true) from by decide)] at h
      obtain ⟨hLb, hh2, hr2⟩ := relN_clr hN6 hL hh hr hd q
      obtain ⟨c1, c2, c3⟩ := clr hL (show b' < 6 by omega) hLb
      obtain ⟨R', rfl⟩ : ∃ R', R = R' + 1 := ⟨R - 1, by omega⟩
      by_cases q2 : kO K bf b' = true
      case neg => rw [if_neg q2] at h; cases h
      rw [if_pos q2] at h
      have hch : tb (chO K bf L) b' = true := by
        cases bf with
        | none => exact hLb
        | some p => show tb (L &&& K p) b' = true; rw [tb_and, hLb]; exact q2
      obtain ⟨i1, i2⟩ := lines_ge hN hN6 r R' (L - 2 ^ b') (had + 2 ^ b') (some b') x c1 (hi.clr hL (by omega) hLb) (by omega) hh2 hr2 h
      have eB := Bl_S K R' L b'
      obtain ⟨s1, s2⟩ := amd_s (F := Fk K (R' + 1) L) (L := chO K bf L) 6 (Nat.le_refl 6)
      cases e : amd (Fk K (R' + 1) L) (chO K bf L) 6 with
      | none => have := s1 e b' (by omega) (by omega); rw [hch] at this; cases this
      | some b =>
        obtain ⟨a1, a2, a3, a4⟩ := s2 b e
        obtain ⟨k1, k2⟩ := a4 b' (by omega) (by omega) hch
        have hb := ch_in a3
        have l1 := Bl_le (K := K) (R' + 1) L b hL a2 hb hc
        have l2 := Bl_le (K := K) (R' + 1) L b' hL (by omega) hLb hc
        have h6 := cnt_le (tb L) 6
        have eb := Bl_S K R' L b
        rw [Wl_S e]
        unfold Fk at k1 k2
        have gl := glc_lt (K := K) hN R' (L - 2 ^ b) (some b) (clr hL a2 hb).1 (hi.clr hL a2 hb)
        refine ⟨by omega, fun hw => ?_⟩
        have hrw : r = Wl K R' (L - 2 ^ b) (some b) := by omega
        rw [glc_S e, ← hrw, Nat.mul_comm b]
        rw [← hrw] at gl
        rcases Nat.lt_trichotomy b' b with z | z | z
        · have := k2 z; omega
        · rw [z] at i2 ⊢
          have := i2 hrw
          omega
        · have k := Nat.mul_le_mul_left (N ^ r) (show b + 1 ≤ b' by omega)
          rw [Nat.mul_add, Nat.mul_one] at k
          generalize x % N ^ r = y
          omega
theorem lines_eq (hN : 0 < N) (hN6 : N ≤ 6) : ∀ R L had bf x, L < 64 → inN L N → cnt (tb L) 6 = R → had < 64 → relN N L had → x % N ^ Wl K R L bf = glc K N R L bf → il K N (Wl K R L bf) x had bf = true
  | 0, L, had, bf, x, hL, hi, hc, hh, hr, h => by rw [Wl_0 hL hc]; rfl
  | R + 1, L, had, bf, x, hL, hi, hc, hh, hr, h => by
    cases e : amd (Fk K (R + 1) L) (chO K bf L) 6 with
    | none => rw [Wl_n e]; rfl
    | some b =>
      obtain ⟨a1, a2, a3, -⟩ := (amd_s 6 (Nat.le_refl 6)).2 b e
      have hb := ch_in a3
      have hbN := hi b a2 hb
      obtain ⟨c1, c2, c3⟩ := clr hL a2 hb
      have gl := glc_lt (K := K) hN R (L - 2 ^ b) (some b) c1 (hi.clr hL a2 hb)
      rw [glc_S e, Wl_S e, Nat.add_comm 1] at h
      rw [Wl_S e, Nat.add_comm 1]
      have hx : x % N ^ (Wl K R (L - 2 ^ b) (some b) + 1) = x % N ^ Wl K R (L - 2 ^ b) (some b) + N ^ Wl K R (L - 2 ^ b) (some b) * (x / N ^ Wl K R (L - 2 ^ b) (some b) % N) := by rw [Nat.pow_succ]; exact Nat.mod_mul
      rw [hx, Nat.mul_comm b, Nat.add_comm (N ^ Wl K R (L - 2 ^ b) (some b) * b)] at h
      obtain ⟨z1, z2⟩ := euc (Nat.mod_lt x (Nat.pow_pos hN)) gl h
      have hb0 : tb had b = false := by rw [hr b hbN, hb]; rfl
      obtain ⟨-, hh2, hr2⟩ := relN_clr hN6 hL hh hr hbN hb0
      have ih := lines_eq hN hN6 R (L - 2 ^ b) (had + 2 ^ b) (some b) x c1 (hi.clr hL a2 hb) (by omega) hh2 hr2 z2
      show (if tb had (x / N ^ Wl K R (L - 2 ^ b) (some b) % N) = true then false else if kO K bf (x / N ^ Wl K R (L - 2 ^ b) (some b) % N) = true then il K N (Wl K R (L - 2 ^ b) (some b)) x (had + 2 ^ (x / N ^ Wl K R (L - 2 ^ b) (some b) % N)) (some (x / N ^ Wl K R (L - 2 ^ b) (some b) % N)) else false) = true
      rw [z1, hb0, if_neg (show ¬ (false = true) from by decide)]
      have q2 : kO K bf b = true := by
        cases bf with
        | none => rfl
        | some p =>
          have a3 : tb (L &&& K p) b = true := a3
          rw [tb_and, Bool.and_eq_true] at a3
          exact a3.2
      rw [if_pos q2]; exact ih
theorem glc_dig (hN : 0 < N) : ∀ R L bf k, L < 64 → inN L N → cnt (tb L) 6 = R → k < Wl K R L bf → glc K N R L bf / N ^ (Wl K R L bf - 1 - k) % N = lk K R L bf k
  | 0, L, bf, k, hL, hi, hc, hk => by rw [Wl_0 hL hc] at hk; omega
  | R + 1, L, bf, k, hL, hi, hc, hk => by
    cases e : amd (Fk K (R + 1) L) (chO K bf L) 6 with
    | none => rw [Wl_n e] at hk; omega
    | some b =>
      obtain ⟨a1, a2, a3, -⟩ := (amd_s 6 (Nat.le_refl 6)).2 b e
      have hb := ch_in a3
      have hbN := hi b a2 hb
      obtain ⟨c1, c2, c3⟩ := clr hL a2 hb
      have gl := glc_lt (K := K) hN R (L - 2 ^ b) (some b) c1 (hi.clr hL a2 hb)
      rw [Wl_S e] at hk ⊢
      rw [glc_S e, lk_S e]
      have ih := glc_dig hN R (L - 2 ^ b) (some b) (k - 1) c1 (hi.clr hL a2 hb) (by omega)
      generalize Wl K R (L - 2 ^ b) (some b) = W at *
      generalize glc K N R (L - 2 ^ b) (some b) = g at *
      by_cases q : k = 0
      · subst q
        rw [if_pos rfl, show 1 + W - 1 - 0 = W by omega, Nat.mul_comm, Nat.add_comm, Nat.add_mul_div_left _ _ (Nat.pow_pos hN), Nat.div_eq_of_lt gl, Nat.zero_add, Nat.mod_eq_of_lt hbN]
      · rw [if_neg q, ← ih (by omega), show 1 + W - 1 - k = W - 1 - (k - 1) by omega]
        have ep : N ^ W = N ^ (W - 1 - (k - 1)) * (N ^ (k - 1) * N) := by
          rw [← Nat.pow_succ, ← Nat.pow_add]
          congr 1
          omega
        rw [ep, Nat.add_comm, Nat.mul_comm b, Nat.mul_assoc, Nat.add_mul_div_left _ _ (Nat.pow_pos hN), Nat.mul_assoc, Nat.mul_comm (N ^ (k - 1)), Nat.mul_assoc, Nat.add_mul_mod_self_left]
end LINES
