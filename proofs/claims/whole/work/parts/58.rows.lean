/-! Rows of boxes: the best of all orders, and the one that is built from behind. -/
theorem clr_all : ∀ L, L < 64 → ∀ i, i < 6 → tb L i = true → nI L &&& (((1 : Int32) <<< (nI i &&& 31)) ^^^ (-1)) = nI (L - 2 ^ i) ∧ L - 2 ^ i < L ∧ cnt (tb (L - 2 ^ i)) 6 + 1 = cnt (tb L) 6 ∧ ∀ j, j < 6 → tb (L - 2 ^ i) j = (tb L j && !decide (j = i)) := by decide +kernel
theorem z_all : ∀ L, L < 64 → (cnt (tb L) 6 = 0 → L = 0) ∧ (L = 0 → cnt (tb L) 6 = 0) := by decide +kernel
def memF (bx i : Nat) : Nat := if tb bx 0 = true ∧ cnt (tb bx) 0 = i then 0 else if tb bx 1 = true ∧ cnt (tb bx) 1 = i then 1 else if tb bx 2 = true ∧ cnt (tb bx) 2 = i then 2 else if tb bx 3 = true ∧ cnt (tb bx) 3 = i then 3 else if tb bx 4 = true ∧ cnt (tb bx) 4 = i then 4 else 5
theorem mem_all : ∀ bx, bx < 64 → (∀ i, i < 6 → i < cnt (tb bx) 6 → memF bx i < 6 ∧ tb bx (memF bx i) = true ∧ cnt (tb bx) (memF bx i) = i) ∧ ∀ b, b < 6 → tb bx b = true → memF bx (cnt (tb bx) b) = b ∧ cnt (tb bx) b < cnt (tb bx) 6 := by decide +kernel
theorem cnt_mono (p : Nat → Bool) {a b : Nat} (h : a ≤ b) : cnt p a ≤ cnt p b := by
  obtain ⟨d, rfl⟩ : ∃ d, b = a + d := ⟨b - a, by omega⟩
  clear h
  induction d with
  | zero => exact Nat.le_refl _
  | succ d ih =>
    show cnt p a ≤ cnt p (a + d) + (if p (a + d) then 1 else 0)
    omega
/-- the cheapest of the bits of L, the first of such -/
def amd (F : Nat → Nat) (L : Nat) : Nat → Option Nat
  | 0 => none
  | k + 1 => if tb L (5 - k) then (match amd F L k with | none => some (5 - k) | some j => if F j < F (5 - k) then some j else some (5 - k)) else amd F L k
theorem amd_s {F : Nat → Nat} {L : Nat} : ∀ k, k ≤ 6 → (amd F L k = none → ∀ i, 6 - k ≤ i → i < 6 → tb L i = false) ∧ ∀ b, amd F L k = some b → 6 - k ≤ b ∧ b < 6 ∧ tb L b = true ∧ ∀ i, 6 - k ≤ i → i < 6 → tb L i = true → F b ≤ F i ∧ (i < b → F b < F i)
  | 0, _ => ⟨fun _ i h1 h2 => (by omega), fun b h => (by cases h)⟩
  | k + 1, hk => by
    obtain ⟨h1, h2⟩ := amd_s (F := F) (L := L) k (by omega)
    cases hb : tb L (5 - k) with
    | false =>
      have e : amd F L (k + 1) = amd F L k := by
        show (if tb L (5 - k) then _ else amd F L k) = _
        rw [hb]; rfl
      rw [e]
      refine ⟨fun h i a b => ?_, fun b h => ?_⟩
      · by_cases q : i = 5 - k
        · rw [q]; exact hb
        · exact h1 h i (by omega) b
      · obtain ⟨a1, a2, a3, a4⟩ := h2 b h
        refine ⟨by omega, a2, a3, fun i q1 q2 q3 => ?_⟩
        by_cases q : i = 5 - k
        · rw [q, hb] at q3; cases q3
        · exact a4 i (by omega) q2 q3
    | true =>
      have e : amd F L (k + 1) = (match amd F L k with | none => some (5 - k) | some j => if F j < F (5 - k) then some j else some (5 - k)) := by
        show (if tb L (5 - k) then _ else amd F L k) = _
        rw [hb]; rfl
      rw [e]
      cases ho : amd F L k with
      | none =>
        refine ⟨fun h => (by cases h), fun b h => ?_⟩
        have : 5 - k = b := Option.some.inj h
        subst this
        refine ⟨by omega, by omega, hb, fun i q1 q2 q3 => ?_⟩
        by_cases q : i = 5 - k
        · rw [q]; exact ⟨Nat.le_refl _, fun z => by omega⟩
        · rw [h1 ho i (by omega) q2] at q3; cases q3
      | some j =>
        obtain ⟨a1, a2, a3, a4⟩ := h2 j ho
        dsimp only
        by_cases q : F j < F (5 - k)
        · rw [if_pos q]
          refine ⟨fun h => (by cases h), fun b h => ?_⟩
          have : j = b := Option.some.inj h
          subst this
          refine ⟨by omega, a2, a3, fun i q1 q2 q3 => ?_⟩
          by_cases z : i = 5 - k
          · rw [z]; exact ⟨by omega, fun _ => q⟩
          · exact a4 i (by omega) q2 q3
        · rw [if_neg q]
          refine ⟨fun h => (by cases h), fun b h => ?_⟩
          have : 5 - k = b := Option.some.inj h
          subst this
          refine ⟨by omega, by omega, hb, fun i q1 q2 q3 => ?_⟩
          by_cases z : i = 5 - k
          · rw [z]; exact ⟨Nat.le_refl _, fun z => by omega⟩
          · have := a4 i (by omega) q2 q3
            exact ⟨by omega, fun z => by omega⟩
theorem amd_none {F : Nat → Nat} {L : Nat} (hL : L < 64) : amd F L 6 = none ↔ cnt (tb L) 6 = 0 := by
  obtain ⟨h1, h2⟩ := amd_s (F := F) (L := L) 6 (Nat.le_refl 6)
  constructor
  · intro h
    have k := h1 h
    have : cnt (tb L) 6 = cnt (fun _ => false) 6 := cnt_congr (fun i hi => k i (by omega) hi)
    rw [this]; rfl
  · intro h
    cases e : amd F L 6 with
    | none => rfl
    | some b =>
      obtain ⟨a1, a2, a3, a4⟩ := h2 b e
      have := (z_all L hL).1 h
      subst this
      rw [tb_z b a2] at a3; cases a3
def Ah (A : Nat → Nat → Nat) : Option Nat → Nat → Nat
  | none, _ => 0
  | some x, i => A x i
/-- a row of the r boxes L that begins with x -/
def Tj (A : Nat → Nat → Nat) : Nat → Nat → Nat → Nat
  | 0, _, _ => 8
  | r + 1, L, x => match amd (fun i => Tj A r (L - 2 ^ x) i + A x i) (L - 2 ^ x) 6 with
    | none => 8
    | some b => Tj A r (L - 2 ^ x) b + A x b
def Fj (A : Nat → Nat → Nat) (r L : Nat) (ah : Option Nat) (i : Nat) : Nat := Tj A r L i + Ah A ah i
def Vj (A : Nat → Nat → Nat) (r L : Nat) (ah : Option Nat) : Nat := match amd (Fj A r L ah) L 6 with
  | none => 8
  | some b => Fj A r L ah b
theorem Tj_S (A : Nat → Nat → Nat) (r L x : Nat) : Tj A (r + 1) L x = Vj A r (L - 2 ^ x) (some x) := rfl
theorem Tj_le {A : Nat → Nat → Nat} (hA : ∀ i k, A i k ≤ 8) : ∀ r L x, Tj A r L x ≤ 8 + 8 * r
  | 0, _, _ => Nat.le_refl 8
  | r + 1, L, x => by
    unfold Tj
    split
    · omega
    · rename_i b _
      have := Tj_le hA r (L - 2 ^ x) b
      have := hA x b
      omega
/-- the reference's length of a row by its code, less 8; none, if one stands in it twice -/
def rl (A : Nat → Nat → Nat) (mem : Nat → Nat) (n : Nat) : Nat → Nat → Nat → Option Nat → Option Nat
  | 0, _, _, _ => some 0
  | r + 1, x, had, ah => if tb had (x / n ^ r % n) = true then none else (rl A mem n r x (had + 2 ^ (x / n ^ r % n)) (some (mem (x / n ^ r % n)))).map (· + Ah A ah (mem (x / n ^ r % n)))
/-- the code of the row that the class builds -/
def gcd' (A : Nat → Nat → Nat) (pos : Nat → Nat) (n : Nat) : Nat → Nat → Option Nat → Nat
  | 0, _, _ => 0
  | r + 1, L, ah => match amd (Fj A (r + 1) L ah) L 6 with
    | none => 0
    | some b => pos b * n ^ r + gcd' A pos n r (L - 2 ^ b) (some b)
/-- the k-th box of that row -/
def bk (A : Nat → Nat → Nat) : Nat → Nat → Option Nat → Nat → Nat
  | 0, _, _, _ => 0
  | r + 1, L, ah, k => match amd (Fj A (r + 1) L ah) L 6 with
    | none => 0
    | some b => if k = 0 then b else bk A r (L - 2 ^ b) (some b) (k - 1)
def sub (L bx : Nat) : Prop := ∀ j, j < 6 → tb L j = true → tb bx j = true
def relH (bx L had : Nat) : Prop := ∀ i, i < cnt (tb bx) 6 → tb had i = !tb L (memF bx i)
theorem clr {L i : Nat} (hL : L < 64) (hi : i < 6) (hb : tb L i = true) : L - 2 ^ i < 64 ∧ cnt (tb (L - 2 ^ i)) 6 + 1 = cnt (tb L) 6 ∧ ∀ j, j < 6 → tb (L - 2 ^ i) j = (tb L j && !decide (j = i)) := by
  obtain ⟨a, b, c, d⟩ := clr_all L hL i hi hb
  exact ⟨by omega, c, d⟩
theorem sub.clr {L bx i : Nat} (h : sub L bx) (hL : L < 64) (hi : i < 6) (hb : tb L i = true) : sub (L - 2 ^ i) bx := by
  intro j hj hj2
  rw [(clr_all L hL i hi hb).2.2.2 j hj, Bool.and_eq_true] at hj2
  exact h j hj hj2.1
theorem euc {N q p r g : Nat} (hr : r < N) (hg : g < N) (h : r + N * q = g + N * p) : q = p ∧ r = g := by
  have h1 : (r + N * q) / N = q := by rw [Nat.add_mul_div_left _ _ (by omega), Nat.div_eq_of_lt hr, Nat.zero_add]
  have h2 : (g + N * p) / N = p := by rw [Nat.add_mul_div_left _ _ (by omega), Nat.div_eq_of_lt hg, Nat.zero_add]
  rw [h, h2] at h1
  subst h1
  exact ⟨rfl, by omega⟩
section ROWS
variable {A : Nat → Nat → Nat} {bx : Nat}
theorem pos_lt (hbx : bx < 64) {b : Nat} (hb : b < 6) (h : tb bx b = true) : cnt (tb bx) b < cnt (tb bx) 6 := ((mem_all bx hbx).2 b hb h).2
theorem gcd_lt (hbx : bx < 64) (hn : 0 < cnt (tb bx) 6) : ∀ r L ah, L < 64 → sub L bx → gcd' A (cnt (tb bx)) (cnt (tb bx) 6) r L ah < cnt (tb bx) 6 ^ r
  | 0, _, _, _, _ => Nat.zero_lt_one
  | r + 1, L, ah, hL, hs => by
    have hN : 0 < cnt (tb bx) 6 ^ r := Nat.pow_pos hn
    have hN2 : 0 < cnt (tb bx) 6 ^ (r + 1) := Nat.pow_pos hn
    unfold gcd'
    split
    · exact hN2
    · rename_i b e
      obtain ⟨a1, a2, a3, a4⟩ := (amd_s 6 (Nat.le_refl 6)).2 b e
      have ih := gcd_lt hbx hn r (L - 2 ^ b) (some b) (clr hL a2 a3).1 (hs.clr hL a2 a3)
      have hp := pos_lt hbx a2 (hs b a2 a3)
      have k := Nat.mul_le_mul_right (cnt (tb bx) 6 ^ r) (show cnt (tb bx) b + 1 ≤ cnt (tb bx) 6 by omega)
      rw [Nat.add_mul, Nat.one_mul] at k
      rw [Nat.pow_succ, Nat.mul_comm (cnt (tb bx) 6 ^ r)]
      omega
theorem rel_clr (hbx : bx < 64) {L had i : Nat} (hL : L < 64) (hh : had < 64) (hr : relH bx L had) (hi : i < cnt (tb bx) 6) (hb : tb had i = false) : tb L (memF bx i) = true ∧ memF bx i < 6 ∧ had + 2 ^ i < 64 ∧ relH bx (L - 2 ^ memF bx i) (had + 2 ^ i) := by
  have h6 := cnt_le (tb bx) 6
  obtain ⟨m1, m2, m3⟩ := (mem_all bx hbx).1 i (by omega) hi
  have e := hr i hi
  rw [hb] at e
  have hLi : tb L (memF bx i) = true := by
    cases q : tb L (memF bx i) with
    | true => rfl
    | false => rw [q] at e; cases e
  obtain ⟨-, b2, -, b4⟩ := bset_all had hh i (by omega) hb
  refine ⟨hLi, m1, b2, fun j hj => ?_⟩
  obtain ⟨n1, n2, n3⟩ := (mem_all bx hbx).1 j (by omega) hj
  rw [b4 j (by omega), (clr hL m1 hLi).2.2 _ n1, hr j hj]
  by_cases q : j = i
  · subst q; simp
  · have : ¬ memF bx j = memF bx i := fun z => q (by rw [← n3, z, m3])
    simp [q, this]
theorem mem_lt (hbx : bx < 64) {i b : Nat} (hi : i < cnt (tb bx) 6) (h : i < cnt (tb bx) b) : memF bx i < b := by
  have h6 := cnt_le (tb bx) 6
  obtain ⟨m1, m2, m3⟩ := (mem_all bx hbx).1 i (by omega) hi
  rcases Nat.lt_or_ge (memF bx i) b with q | q
  · exact q
  · have := cnt_mono (tb bx) q
    omega
theorem rows_ge (hbx : bx < 64) (hn : 0 < cnt (tb bx) 6) : ∀ r L had ah x v, L < 64 → sub L bx → cnt (tb L) 6 = r → had < 64 → relH bx L had → rl A (memF bx) (cnt (tb bx) 6) r x had ah = some v → Vj A r L ah ≤ v + 8 ∧ (x % cnt (tb bx) 6 ^ r < gcd' A (cnt (tb bx)) (cnt (tb bx) 6) r L ah → Vj A r L ah < v + 8)
  | 0, L, had, ah, x, v, hL, hs, hc, hh, hr, h => by
    have e : amd (Fj A 0 L ah) L 6 = none := (amd_none hL).mpr hc
    have hv : Vj A 0 L ah = 8 := by unfold Vj; rw [e]
    rw [hv]
    refine ⟨by omega, fun z => ?_⟩
    have z : x % 1 < 0 := z
    omega
  | r + 1, L, had, ah, x, v, hL, hs, hc, hh, hr, h => by
    have hi : x / cnt (tb bx) 6 ^ r % cnt (tb bx) 6 < cnt (tb bx) 6 := Nat.mod_lt _ hn
    have hx : x % cnt (tb bx) 6 ^ (r + 1) = x % cnt (tb bx) 6 ^ r + cnt (tb bx) 6 ^ r * (x / cnt (tb bx) 6 ^ r % cnt (tb bx) 6) := by rw [Nat.pow_succ]; exact Nat.mod_mul
    have h : (if tb had (x / cnt (tb bx) 6 ^ r % cnt (tb bx) 6) = true then none else (rl A (memF bx) (cnt (tb bx) 6) r x (had + 2 ^ (x / cnt (tb bx) 6 ^ r % cnt (tb bx) 6)) (some (memF bx (x / cnt (tb bx) 6 ^ r % cnt (tb bx) 6)))).map (· + Ah A ah (memF bx (x / cnt (tb bx) 6 ^ r % cnt (tb bx) 6)))) = some v := h
    rw [hx]
    generalize x / cnt (tb bx) 6 ^ r % cnt (tb bx) 6 = i at *
    cases q : tb had i with
    | true => rw [q, if_pos rfl] at h; cases h
    | false =>
      rw [q, if_neg (by decide)] at h
      obtain ⟨hLi, m1, hh2, hr2⟩ := rel_clr hbx hL hh hr hi q
      obtain ⟨c1, c2, c3⟩ := clr hL m1 hLi
      cases hv' : rl A (memF bx) (cnt (tb bx) 6) r x (had + 2 ^ i) (some (memF bx i)) with
      | none => rw [hv'] at h; cases h
      | some v' =>
        rw [hv'] at h
        have ev : v' + Ah A ah (memF bx i) = v := Option.some.inj h
        obtain ⟨i1, i2⟩ := rows_ge hbx hn r (L - 2 ^ memF bx i) (had + 2 ^ i) (some (memF bx i)) x v' c1 (hs.clr hL m1 hLi) (by omega) hh2 hr2 hv'
        rw [← Tj_S] at i1 i2
        have hF : Fj A (r + 1) L ah (memF bx i) ≤ v + 8 := by unfold Fj; omega
        obtain ⟨s1, s2⟩ := amd_s (F := Fj A (r + 1) L ah) (L := L) 6 (Nat.le_refl 6)
        cases e : amd (Fj A (r + 1) L ah) L 6 with
        | none => have := s1 e (memF bx i) (by omega) m1; rw [hLi] at this; cases this
        | some b =>
          obtain ⟨a1, a2, a3, a4⟩ := s2 b e
          obtain ⟨k1, k2⟩ := a4 (memF bx i) (by omega) m1 hLi
          have hV : Vj A (r + 1) L ah = Fj A (r + 1) L ah b := by unfold Vj; rw [e]
          have hg : gcd' A (cnt (tb bx)) (cnt (tb bx) 6) (r + 1) L ah = cnt (tb bx) b * cnt (tb bx) 6 ^ r + gcd' A (cnt (tb bx)) (cnt (tb bx) 6) r (L - 2 ^ b) (some b) := by
            show (match amd (Fj A (r + 1) L ah) L 6 with | none => 0 | some b => cnt (tb bx) b * cnt (tb bx) 6 ^ r + gcd' A (cnt (tb bx)) (cnt (tb bx) 6) r (L - 2 ^ b) (some b)) = _
            rw [e]
          rw [hV, hg]
          refine ⟨by omega, fun hlt => ?_⟩
          rw [Nat.mul_comm (cnt (tb bx) b)] at hlt
          have gl := gcd_lt (A := A) hbx hn r (L - 2 ^ b) (some b) (clr hL a2 a3).1 (hs.clr hL a2 a3)
          rcases Nat.lt_trichotomy i (cnt (tb bx) b) with z | z | z
          · have := k2 (mem_lt hbx hi z)
            omega
          · have hb : memF bx i = b := by rw [z]; exact ((mem_all bx hbx).2 b a2 (hs b a2 a3)).1
            rw [hb] at i2 hF ev
            rw [z] at hlt
            have := i2 (by omega)
            unfold Fj
            omega
          · have k := Nat.mul_le_mul_left (cnt (tb bx) 6 ^ r) (show cnt (tb bx) b + 1 ≤ i by omega)
            rw [Nat.mul_add, Nat.mul_one] at k
            generalize x % cnt (tb bx) 6 ^ r = y at hlt
            omega
theorem rows_eq (hbx : bx < 64) (hn : 0 < cnt (tb bx) 6) : ∀ r L had ah x, L < 64 → sub L bx → cnt (tb L) 6 = r → had < 64 → relH bx L had → x % cnt (tb bx) 6 ^ r = gcd' A (cnt (tb bx)) (cnt (tb bx) 6) r L ah → ∃ v, rl A (memF bx) (cnt (tb bx) 6) r x had ah = some v ∧ v + 8 = Vj A r L ah
  | 0, L, had, ah, x, hL, hs, hc, hh, hr, h => by
    have e : amd (Fj A 0 L ah) L 6 = none := (amd_none hL).mpr hc
    exact ⟨0, rfl, by unfold Vj; rw [e]⟩
  | r + 1, L, had, ah, x, hL, hs, hc, hh, hr, h => by
    have hi : x / cnt (tb bx) 6 ^ r % cnt (tb bx) 6 < cnt (tb bx) 6 := Nat.mod_lt _ hn
    have hN : 0 < cnt (tb bx) 6 ^ r := Nat.pow_pos hn
    have hx : x % cnt (tb bx) 6 ^ (r + 1) = x % cnt (tb bx) 6 ^ r + cnt (tb bx) 6 ^ r * (x / cnt (tb bx) 6 ^ r % cnt (tb bx) 6) := by rw [Nat.pow_succ]; exact Nat.mod_mul
    cases e : amd (Fj A (r + 1) L ah) L 6 with
    | none => have := (amd_none hL).mp e; omega
    | some b =>
      obtain ⟨a1, a2, a3, a4⟩ := (amd_s 6 (Nat.le_refl 6)).2 b e
      have hg : gcd' A (cnt (tb bx)) (cnt (tb bx) 6) (r + 1) L ah = cnt (tb bx) b * cnt (tb bx) 6 ^ r + gcd' A (cnt (tb bx)) (cnt (tb bx) 6) r (L - 2 ^ b) (some b) := by
        show (match amd (Fj A (r + 1) L ah) L 6 with | none => 0 | some b => cnt (tb bx) b * cnt (tb bx) 6 ^ r + gcd' A (cnt (tb bx)) (cnt (tb bx) 6) r (L - 2 ^ b) (some b)) = _
        rw [e]
      have gl := gcd_lt (A := A) hbx hn r (L - 2 ^ b) (some b) (clr hL a2 a3).1 (hs.clr hL a2 a3)
      rw [hx, hg, Nat.mul_comm (cnt (tb bx) b), Nat.add_comm (cnt (tb bx) 6 ^ r * cnt (tb bx) b)] at h
      obtain ⟨z1, z2⟩ := euc (Nat.mod_lt x hN) gl h
      have hmb := (mem_all bx hbx).2 b a2 (hs b a2 a3)
      have hb0 : tb had (cnt (tb bx) b) = false := by rw [hr _ hmb.2, hmb.1, a3]; rfl
      obtain ⟨-, -, hh2, hr2⟩ := rel_clr hbx hL hh hr hmb.2 hb0
      rw [hmb.1] at hr2
      obtain ⟨c1, c2, c3⟩ := clr hL a2 a3
      obtain ⟨v', e1, e2⟩ := rows_eq hbx hn r (L - 2 ^ b) (had + 2 ^ cnt (tb bx) b) (some b) x c1 (hs.clr hL a2 a3) (by omega) hh2 hr2 z2
      refine ⟨v' + Ah A ah b, ?_, ?_⟩
      · show (if tb had (x / cnt (tb bx) 6 ^ r % cnt (tb bx) 6) = true then none else (rl A (memF bx) (cnt (tb bx) 6) r x (had + 2 ^ (x / cnt (tb bx) 6 ^ r % cnt (tb bx) 6)) (some (memF bx (x / cnt (tb bx) 6 ^ r % cnt (tb bx) 6)))).map (· + Ah A ah (memF bx (x / cnt (tb bx) 6 ^ r % cnt (tb bx) 6)))) = _
        rw [z1, hb0, if_neg (by decide), hmb.1, e1]; rfl
      · unfold Vj
        rw [e]
        show _ = Tj A (r + 1) L b + Ah A ah b
        rw [Tj_S]
        omega
theorem gcd_dig (hbx : bx < 64) (hn : 0 < cnt (tb bx) 6) : ∀ r L ah k, L < 64 → sub L bx → cnt (tb L) 6 = r → k < r → gcd' A (cnt (tb bx)) (cnt (tb bx) 6) r L ah / cnt (tb bx) 6 ^ (r - 1 - k) % cnt (tb bx) 6 = cnt (tb bx) (bk A r L ah k) ∧ bk A r L ah k < 6 ∧ tb bx (bk A r L ah k) = true
  | 0, _, _, k, _, _, _, hk => (by omega)
  | r + 1, L, ah, k, hL, hs, hc, hk => by
    cases e : amd (Fj A (r + 1) L ah) L 6 with
    | none => have := (amd_none hL).mp e; omega
    | some b =>
      obtain ⟨a1, a2, a3, a4⟩ := (amd_s 6 (Nat.le_refl 6)).2 b e
      have hg : gcd' A (cnt (tb bx)) (cnt (tb bx) 6) (r + 1) L ah = cnt (tb bx) b * cnt (tb bx) 6 ^ r + gcd' A (cnt (tb bx)) (cnt (tb bx) 6) r (L - 2 ^ b) (some b) := by
        show (match amd (Fj A (r + 1) L ah) L 6 with | none => 0 | some b => cnt (tb bx) b * cnt (tb bx) 6 ^ r + gcd' A (cnt (tb bx)) (cnt (tb bx) 6) r (L - 2 ^ b) (some b)) = _
        rw [e]
      have hb : bk A (r + 1) L ah k = if k = 0 then b else bk A r (L - 2 ^ b) (some b) (k - 1) := by
        show (match amd (Fj A (r + 1) L ah) L 6 with | none => 0 | some b => if k = 0 then b else bk A r (L - 2 ^ b) (some b) (k - 1)) = _
        rw [e]
      have gl := gcd_lt (A := A) hbx hn r (L - 2 ^ b) (some b) (clr hL a2 a3).1 (hs.clr hL a2 a3)
      have hp := pos_lt hbx a2 (hs b a2 a3)
      obtain ⟨c1, c2, c3⟩ := clr hL a2 a3
      rw [hg, hb]
      by_cases q : k = 0
      · subst q
        rw [if_pos rfl, show r + 1 - 1 - 0 = r by omega, Nat.mul_comm, Nat.add_comm, Nat.add_mul_div_left _ _ (Nat.pow_pos hn), Nat.div_eq_of_lt gl, Nat.zero_add, Nat.mod_eq_of_lt hp]
        exact ⟨rfl, a2, hs b a2 a3⟩
      · rw [if_neg q]
        obtain ⟨i1, i2, i3⟩ := gcd_dig hbx hn r (L - 2 ^ b) (some b) (k - 1) c1 (hs.clr hL a2 a3) (by omega) (by omega)
        refine ⟨?_, i2, i3⟩
        rw [← i1, show r + 1 - 1 - k = r - 1 - (k - 1) by omega]
        have ep : cnt (tb bx) 6 ^ r = cnt (tb bx) 6 ^ (r - 1 - (k - 1)) * (cnt (tb bx) 6 ^ (k - 1) * cnt (tb bx) 6) := by
          rw [← Nat.pow_succ, ← Nat.pow_add]
          congr 1
          omega
        rw [ep, Nat.add_comm, Nat.mul_comm (cnt (tb bx) b), Nat.mul_assoc, Nat.add_mul_div_left _ _ (Nat.pow_pos hn), Nat.mul_assoc, Nat.mul_comm (cnt (tb bx) 6 ^ (k - 1)), Nat.mul_assoc, Nat.add_mul_mod_self_left]
end ROWS
