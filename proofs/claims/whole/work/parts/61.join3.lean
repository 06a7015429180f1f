/-! join: the reference; the call. -/
theorem pow_eq {n k : Nat} (hk : k < 2 ^ 31) : f12_powerOf (nI n) (nI k) = some (nI (n ^ k)) := by
  unfold f12_powerOf f12_powerOf_4
  refine lp_for1 (f := fun z : Int32 × Int32 => f12_powerOf_4_s (nI n) (nI k) z.1 z.2) (fun j => (nI (n ^ j), nI j)) k (fun j hj => ?_) ?_
  · simp only [f12_powerOf_4_s, nI_ge hj hk, if_false, lt, pk_mul, nI_1, Nat.pow_succ]
  · simp only [f12_powerOf_4_s, nI_le (Nat.le_refl k) hk, if_true]
theorem pow_le6 {n r : Nat} (hn : n ≤ 6) (hr : r ≤ 6) : n ^ r ≤ 46656 :=
  Nat.le_trans (Nat.pow_le_pow_left hn r) (Nat.le_trans (Nat.pow_le_pow_right (by omega) hr) (by decide))
theorem nz_nI {k : Nat} (h0 : 0 < k) (h : k < 2 ^ 31) : (!decide (nI k = 0)) = true := by rw [decide_eq_false (nI_ne0 h0 h)]; rfl
def rlv (s : Nat) : Option Nat → Int32
  | none => -1
  | some v => nI (s + v)
theorem rowLong_go {A : Nat → Nat → Nat} {mem : Nat → Nat} {n x : Nat} {h : Hp} (h1 : 1 ≤ n) (hn : n ≤ 6) (hx : x < 2 ^ 31) (h33 : ∀ i k, i < n → k < n → ∃ o, o ≤ 8 ∧ h.1 33 (6 * i + k) = nI o ∧ A (mem i) (mem k) = 8 - o) : ∀ r had sum k (bf : Option Nat), k + r = n → had < 64 → (∀ i, bf = some i → i < n) → (bf = none → k = 0) → lp (fun z : Int32 × Int32 × Int32 × Int32 => f12_rowLong_11_s (nI x) (nI n) z.1 z.2.1 z.2.2.1 z.2.2.2 h) (nI had, nI sum, eI bf, nI k) = some (rlv (sum + (if bf = none then 8 else 0)) (rl A mem n r x had (bf.map mem)))
  | 0, had, sum, k, bf, hk, hh, hb, h0 => by
    have hk : k = n := by omega
    subst hk
    have hbf : ¬ bf = none := fun z => by have := h0 z; omega
    refine lp_inr (o := some _) ?_
    simp only [f12_rowLong_11_s, nI_le (Nat.le_refl k) (show k < 2 ^ 31 by omega), if_true, hbf, if_false, rl, rlv, Nat.add_zero, Option.map_some]
  | r + 1, had, sum, k, bf, hk, hh, hb, h0 => by
    have hN : 0 < n ^ r := Nat.pow_pos (by omega)
    have hN2 := pow_le6 hn (show r ≤ 6 by omega)
    have e1 : nI n - 1 - nI k = nI r := by rw [show (1 : Int32) = nI 1 from rfl, pk_sub h1, pk_sub (by omega)]; congr 1; omega
    have hd : (nI x / nI (n ^ r) : Int32) = nI (x / n ^ r) := pk_div hx hN (by omega)
    have hle : x / n ^ r ≤ x := Nat.div_le_self _ _
    have hr : (nI (x / n ^ r) - nI (x / n ^ r) / nI n * nI n : Int32) = nI (x / n ^ r % n) := pk_rem (by omega) (by omega) (by omega)
    have hi : x / n ^ r % n < n := Nat.mod_lt _ (by omega)
    have es : f12_rowLong_11_s (nI x) (nI n) (nI had) (nI sum) (eI bf) (nI k) h = (f12_isOf (nI had) (nI (x / n ^ r % n))).bind fun r6 => if r6 = 0 then (if 0 ≤ eI bf then (gd (inb ((6 * eI bf) + nI (x / n ^ r % n)) 36) <| f12_rowLong_79 (nI x) (nI n) (nI had ||| (1 <<< (nI (x / n ^ r % n) &&& 31))) (nI k) (nI (x / n ^ r % n)) (8 - (h.1 33 (ix ((6 * eI bf) + nI (x / n ^ r % n))))) (nI sum) h) else (f12_rowLong_79 (nI x) (nI n) (nI had ||| (1 <<< (nI (x / n ^ r % n) &&& 31))) (nI k) (nI (x / n ^ r % n)) 8 (nI sum) h)) else (some (.inr (-1))) := by
      simp only [f12_rowLong_11_s, nI_ge (show k < n by omega) (show n < 2 ^ 31 by omega), if_false, e1, pow_eq (n := n) (show r < 2 ^ 31 by omega), Option.bind_some, gd, nz_nI hN (show n ^ r < 2 ^ 31 by omega), nz_nI (show 0 < n by omega) (show n < 2 ^ 31 by omega), if_true, lt, hd, hr]
    have erl : rl A mem n (r + 1) x had (bf.map mem) = if tb had (x / n ^ r % n) = true then none else (rl A mem n r x (had + 2 ^ (x / n ^ r % n)) (some (mem (x / n ^ r % n)))).map (· + Ah A (bf.map mem) (mem (x / n ^ r % n))) := rfl
    rw [erl]
    generalize x / n ^ r % n = i at *
    have bi := bit1 (x := had) (p := i) (by omega) (by omega)
    cases q : tb had i with
    | true =>
      refine lp_inr (o := some _) ?_
      show f12_rowLong_11_s (nI x) (nI n) (nI had) (nI sum) (eI bf) (nI k) h = _
      rw [es, isOf_eq, Option.bind_some, if_pos (bi.mpr q), if_neg (by decide), if_pos rfl]; rfl
    | false =>
      obtain ⟨s1, s2, -, -⟩ := bset_all had hh i (by omega) q
      have bi' : ¬ ((nI had >>> (nI i &&& 31)) &&& 1 = 1) := fun z => by rw [bi.mp z] at q; cases q
      have ih := fun sum' => rowLong_go (A := A) (mem := mem) h1 hn hx h33 r (had + 2 ^ i) sum' (k + 1) (some i) (by omega) s2 (fun j hj => by have := Option.some.inj hj; omega) (fun z => by cases z)
      rw [isOf_eq, Option.bind_some, if_neg bi', if_pos rfl, s1] at es
      rw [if_neg (show ¬ (false = true) from by decide)]
      cases bf with
      | none =>
        have z0 : ¬ (0 : Int32) ≤ eI none := by decide
        rw [if_neg z0] at es
        refine (lp_inl (f := fun z : Int32 × Int32 × Int32 × Int32 => f12_rowLong_11_s (nI x) (nI n) z.1 z.2.1 z.2.2.1 z.2.2.2 h) (s := (nI had, nI sum, eI none, nI k)) (s' := (nI (had + 2 ^ i), nI (sum + 8), nI i, nI (k + 1))) ?_).trans ((ih (sum + 8)).trans ?_)
        · refine es.trans ?_
          simp only [f12_rowLong_79, lt, nI_1, show (8 : Int32) = nI 8 from rfl, nI_add]
        · show some (rlv (sum + 8 + (if some i = none then 8 else 0)) (rl A mem n r x (had + 2 ^ i) (some (mem i)))) = some (rlv (sum + (if (none : Option Nat) = none then 8 else 0)) ((rl A mem n r x (had + 2 ^ i) (some (mem i))).map (· + 0)))
          rw [if_neg (by intro z; cases z), if_pos rfl]
          cases rl A mem n r x (had + 2 ^ i) (some (mem i)) <;> rfl
      | some j =>
        have hj := hb j rfl
        have z0 : (0 : Int32) ≤ eI (some j) := nI_pos' (by omega)
        obtain ⟨o, ho, hv, hA⟩ := h33 j i hj hi
        rw [if_pos z0, eI_s] at es
        have e6 : (6 * nI j + nI i : Int32) = nI (6 * j + i) := by rw [lit, pk_mul, nI_add]
        have e8 : (8 - nI o : Int32) = nI (8 - o) := by rw [lit]; exact pk_sub ho
        refine (lp_inl (f := fun z : Int32 × Int32 × Int32 × Int32 => f12_rowLong_11_s (nI x) (nI n) z.1 z.2.1 z.2.2.1 z.2.2.2 h) (s := (nI had, nI sum, eI (some j), nI k)) (s' := (nI (had + 2 ^ i), nI (sum + (8 - o)), nI i, nI (k + 1))) ?_).trans ((ih (sum + (8 - o))).trans ?_)
        · refine es.trans ?_
          simp only [f12_rowLong_79, lt, gd, e6, inb_t (show 6 * j + i < 36 by omega) (by omega), ix_nI (show 6 * j + i < 2 ^ 31 by omega), if_true, hv, e8, nI_1, nI_add]
        · show some (rlv (sum + (8 - o) + (if some i = none then 8 else 0)) (rl A mem n r x (had + 2 ^ i) (some (mem i)))) = some (rlv (sum + (if some j = none then 8 else 0)) ((rl A mem n r x (had + 2 ^ i) (some (mem i))).map (· + A (mem j) (mem i))))
          rw [if_neg (by intro z; cases z), if_neg (by intro z; cases z), hA]
          cases rl A mem n r x (had + 2 ^ i) (some (mem i)) with
          | none => rfl
          | some v =>
            show some (nI (sum + (8 - o) + 0 + v)) = some (nI (sum + 0 + (v + (8 - o))))
            congr 2; omega
theorem rowLong_eq {A : Nat → Nat → Nat} {mem : Nat → Nat} {n x : Nat} {h : Hp} (h1 : 1 ≤ n) (hn : n ≤ 6) (hx : x < 2 ^ 31) (h33 : ∀ i k, i < n → k < n → ∃ o, o ≤ 8 ∧ h.1 33 (6 * i + k) = nI o ∧ A (mem i) (mem k) = 8 - o) : f12_rowLong (nI x) (nI n) h = some (rlv 8 (rl A mem n n x 0 none)) := by
  have := rowLong_go (A := A) (mem := mem) h1 hn hx h33 n 0 0 0 none (by omega) (by omega) (fun i hi => by cases hi) (fun _ => rfl)
  exact this
def lenF (A : Nat → Nat → Nat) (mem : Nat → Nat) (n x : Nat) : Nat := match rl A mem n n x 0 none with
  | none => 0
  | some v => 8 + v
def pJ (A : Nat → Nat → Nat) (mem : Nat → Nat) (n x : Nat) : Bool := (rl A mem n n x 0 none).isSome
theorem rl_le {A : Nat → Nat → Nat} {mem : Nat → Nat} {n : Nat} (hA : ∀ i k, A i k ≤ 8) : ∀ r x had ah v, rl A mem n r x had ah = some v → v ≤ 8 * r
  | 0, x, had, ah, v, h => by have := Option.some.inj h; omega
  | r + 1, x, had, ah, v, h => by
    have h : (if tb had (x / n ^ r % n) = true then none else (rl A mem n r x (had + 2 ^ (x / n ^ r % n)) (some (mem (x / n ^ r % n)))).map (· + Ah A ah (mem (x / n ^ r % n)))) = some v := h
    by_cases q : tb had (x / n ^ r % n) = true
    · rw [if_pos q] at h; cases h
    · rw [if_neg q] at h
      cases e : rl A mem n r x (had + 2 ^ (x / n ^ r % n)) (some (mem (x / n ^ r % n))) with
      | none => rw [e] at h; cases h
      | some v' =>
        rw [e] at h
        have h : v' + Ah A ah (mem (x / n ^ r % n)) = v := Option.some.inj h
        have i1 := rl_le hA r _ _ _ _ e
        have i2 := Ah_le hA ah (mem (x / n ^ r % n))
        omega
theorem lenF_le {A : Nat → Nat → Nat} {mem : Nat → Nat} {n x : Nat} (hA : ∀ i k, A i k ≤ 8) (hn : n ≤ 6) : lenF A mem n x ≤ 56 := by
  unfold lenF
  split
  · omega
  · rename_i v e
    have := rl_le hA n x 0 none v e
    omega
/-- the reference's best code is the code of the class's row -/
theorem join_best {A : Nat → Nat → Nat} {bx : Nat} (hA : ∀ i k, A i k ≤ 8) (hbx : bx < 64) (hn : 0 < cnt (tb bx) 6) : bst (pJ A (memF bx) (cnt (tb bx) 6)) (fun x => 1000 - lenF A (memF bx) (cnt (tb bx) 6) x) (cnt (tb bx) 6 ^ cnt (tb bx) 6) = some (gcd' A (cnt (tb bx)) (cnt (tb bx) 6) (cnt (tb bx) 6) bx none) ∧ lenF A (memF bx) (cnt (tb bx) 6) (gcd' A (cnt (tb bx)) (cnt (tb bx) 6) (cnt (tb bx) 6) bx none) = Vj A (cnt (tb bx) 6) bx none := by
  have h6 := cnt_le (tb bx) 6
  have ss : sub bx bx := fun j _ h => h
  have rr0 : relH bx bx 0 := fun i hi => by
    obtain ⟨m1, m2, m3⟩ := (mem_all bx hbx).1 i (by omega) hi
    rw [m2, tb_z i (by omega)]; rfl
  have gl := gcd_lt (A := A) hbx hn (cnt (tb bx) 6) bx none hbx ss
  have re := rows_eq (A := A) hbx hn (cnt (tb bx) 6) bx 0 none _ hbx ss rfl (by omega) rr0 (Nat.mod_eq_of_lt gl)
  have rg := fun x v => rows_ge (A := A) hbx hn (cnt (tb bx) 6) bx 0 none x v hbx ss rfl (by omega) rr0
  generalize gcd' A (cnt (tb bx)) (cnt (tb bx) 6) (cnt (tb bx) 6) bx none = y at *
  obtain ⟨v, e1, e2⟩ := re
  have ly : lenF A (memF bx) (cnt (tb bx) 6) y = Vj A (cnt (tb bx) 6) bx none := by unfold lenF; rw [e1]; show 8 + v = _; omega
  have vb := lenF_le (mem := memF bx) (n := cnt (tb bx) 6) (x := y) hA h6
  refine ⟨bst_of ⟨gl, ?_, fun x hx px => ?_, fun x hx px => ?_⟩, ly⟩
  · unfold pJ; rw [e1]; rfl
  · unfold pJ at px
    cases ex : rl A (memF bx) (cnt (tb bx) 6) (cnt (tb bx) 6) x 0 none with
    | none => rw [ex] at px; cases px
    | some vx =>
      have k := (rg x vx ex).1
      have lx : lenF A (memF bx) (cnt (tb bx) 6) x = 8 + vx := by unfold lenF; rw [ex]
      show 1000 - lenF A (memF bx) (cnt (tb bx) 6) x ≤ 1000 - lenF A (memF bx) (cnt (tb bx) 6) y
      rw [lx, ly]; omega
  · unfold pJ at px
    cases ex : rl A (memF bx) (cnt (tb bx) 6) (cnt (tb bx) 6) x 0 none with
    | none => rw [ex] at px; cases px
    | some vx =>
      have k := (rg x vx ex).2 (by rw [Nat.mod_eq_of_lt (Nat.lt_trans hx gl)]; exact hx)
      have lx : lenF A (memF bx) (cnt (tb bx) 6) x = 8 + vx := by unfold lenF; rw [ex]
      rw [ly] at vb
      show 1000 - lenF A (memF bx) (cnt (tb bx) 6) x < 1000 - lenF A (memF bx) (cnt (tb bx) 6) y
      rw [lx, ly]; omega
theorem codesJ {A : Nat → Nat → Nat} {mem : Nat → Nat} {n : Nat} {w : Int32} {h : Hp} (hA : ∀ i k, A i k ≤ 8) (h1 : 1 ≤ n) (hn : n ≤ 6) (h33 : ∀ i k, i < n → k < n → ∃ o, o ≤ 8 ∧ h.1 33 (6 * i + k) = nI o ∧ A (mem i) (mem k) = 8 - o) : f12_join_159 w (nI n) h = f12_join_221 w (nI n) (eI (bst (pJ A mem n) (fun x => 1000 - lenF A mem n x) (n ^ n))) (eL (lenF A mem n) (bst (pJ A mem n) (fun x => 1000 - lenF A mem n x) (n ^ n))) h := by
  have hN := pow_le6 hn hn
  have ep := pow_eq (n := n) (show n < 2 ^ 31 by omega)
  unfold f12_join_159 f12_join_168
  refine lp_for (f := fun z : Int32 × Int32 × Int32 => f12_join_168_s w (nI n) z.1 z.2.1 z.2.2 h) (fun x => (eI (bst (pJ A mem n) (fun x => 1000 - lenF A mem n x) x), eL (lenF A mem n) (bst (pJ A mem n) (fun x => 1000 - lenF A mem n x) x), nI x)) (n ^ n) (fun x hx => ?_) ?_
  · have er := rowLong_eq (A := A) (mem := mem) h1 hn (show x < 2 ^ 31 by omega) h33
    simp only [f12_join_168_s, f12_join_207, f12_join_215, ep, Option.bind_some, nI_ge hx (show n ^ n < 2 ^ 31 by omega), if_false, er, nI_1]
    have vb := lenF_le (mem := mem) (n := n) (x := x) hA hn
    cases ex : rl A mem n n x 0 none with
    | none =>
      have eb : bst (pJ A mem n) (fun x => 1000 - lenF A mem n x) (x + 1) = bst (pJ A mem n) (fun x => 1000 - lenF A mem n x) x := by
        show (if pJ A mem n x then _ else bst (pJ A mem n) (fun x => 1000 - lenF A mem n x) x) = _
        unfold pJ; rw [ex]; rfl
      rw [eb]
      rw [if_pos (show rlv 8 none < 0 from by decide)]
    | some v =>
      have lx : lenF A mem n x = 8 + v := by unfold lenF; rw [ex]
      have ev : rlv 8 (some v) = nI (lenF A mem n x) := by rw [lx]; rfl
      have eb : bst (pJ A mem n) (fun x => 1000 - lenF A mem n x) (x + 1) = (match bst (pJ A mem n) (fun x => 1000 - lenF A mem n x) x with | none => some x | some y => if 1000 - lenF A mem n y < 1000 - lenF A mem n x then some x else some y) := by
        show (if pJ A mem n x then _ else bst (pJ A mem n) (fun x => 1000 - lenF A mem n x) x) = _
        have : pJ A mem n x = true := by unfold pJ; rw [ex]; rfl
        rw [this]; rfl
      rw [eb, ev, if_neg (nI_pos (by omega))]
      cases hb : bst (pJ A mem n) (fun x => 1000 - lenF A mem n x) x with
      | none => simp only [eI_n, eI_s, show ((-1 : Int32) < 0) = True from by decide, if_true, eL]
      | some y =>
        have hy := ((bst_some (p := pJ A mem n) (f := fun x => 1000 - lenF A mem n x) x).1 y hb).1
        have vy := lenF_le (mem := mem) (n := n) (x := y) hA hn
        have z : ¬ nI y < (0 : Int32) := nI_pos (by omega)
        generalize lenF A mem n = G at *
        by_cases qq : G x < G y
        · simp only [eI_s, eL, z, if_false, nI_lt qq (show G y < 2 ^ 31 by omega), if_true, show (1000 - G y < 1000 - G x) = True from eq_true (by omega)]
        · simp only [eI_s, eL, z, if_false, nI_nlt (show G y ≤ G x by omega) (show G x < 2 ^ 31 by omega), show (1000 - G y < 1000 - G x) = False from eq_false (by omega)]
  · simp only [f12_join_168_s, ep, Option.bind_some, nI_le (Nat.le_refl (n ^ n)) (show n ^ n < 2 ^ 31 by omega), if_true]
theorem hi_all : ∀ n, n ≤ 6 → ∀ bx, bx < 64 → bx < 2 ^ n → ∀ i, i < 6 → n ≤ i → tb bx i = false := by decide +kernel
theorem sh_all : ∀ t, t ≤ 6 → (1 : Int32) <<< (nI t &&& 31) = nI (2 ^ t) ∧ 2 ^ t ≤ 64 := by decide +kernel
theorem membersM {S : Sp} {bx : Nat} {w : Int32} {m : Hp} (hn : S 0 0 ≤ 6) (h12 : m.1 0 12 = nI (S 0 0)) (hbx : bx < 64) (hb2 : bx < 2 ^ S 0 0) : ∃ h, f12_join_40 (nI bx) w 0 0 m = f12_join_78 w (nI (cnt (tb bx) 6)) h ∧ (∀ b, b < 6 → tb bx b = true → h.1 32 (cnt (tb bx) b) = nI b) ∧ (∀ q k, q ≠ 32 → h.1 q k = m.1 q k) ∧ h.2 = m.2 := by
  have hi := hi_all (S 0 0) hn bx hbx hb2
  have ec : cnt (tb bx) 6 = cnt (tb bx) (S 0 0) := by
    obtain ⟨d, hd⟩ : ∃ d, 6 = S 0 0 + d := ⟨6 - S 0 0, by omega⟩
    rw [hd]
    exact cnt_ext (fun i h1 h2 => hi i (by omega) h1)
  unfold f12_join_40
  obtain ⟨⟨a, b, h⟩, e, i1, i2, i3, i4, i5⟩ := lp_walk (f := fun z : Int32 × Int32 × Hp => f12_join_40_s (nI bx) w z.1 z.2.1 z.2.2) (fun k z => z.1 = nI (cnt (tb bx) k) ∧ z.2.1 = nI k ∧ (∀ b, b < k → tb bx b = true → z.2.2.1 32 (cnt (tb bx) b) = nI b) ∧ (∀ q k, q ≠ 32 → z.2.2.1 q k = m.1 q k) ∧ z.2.2.2 = m.2) (S 0 0) (0, 0, m) ⟨rfl, rfl, fun b hb => by omega, fun _ _ _ => rfl, rfl⟩ (fun k z hk hI => by
    obtain ⟨a, b, h⟩ := z
    dsimp only at hI
    obtain ⟨rfl, rfl, i3, i4, i5⟩ := hI
    have b12 : h.1 0 12 = nI (S 0 0) := (i4 _ _ (by omega)).trans h12
    have hc := cnt_le (tb bx) k
    have bi := bit1 (x := bx) (p := k) (by omega) (by omega)
    cases q : tb bx k with
    | true =>
      have e1 : cnt (tb bx) (k + 1) = cnt (tb bx) k + 1 := by show cnt (tb bx) k + (if tb bx k then 1 else 0) = _; rw [q]; rfl
      refine ⟨(nI (cnt (tb bx) (k + 1)), nI (k + 1), wI h 32 (cnt (tb bx) k) (nI k)), ?_, rfl, rfl, fun b hb h1 => ?_, fun q k n => (wI_o (by omega)).trans (i4 q k n), i5⟩
      · rw [e1]
        simp only [f12_join_40_s, f12_join_72, b12, nI_ge hk (show S 0 0 < 2 ^ 31 by omega), if_false, isOf_eq, bi.mpr q, if_true, Option.bind_some, one_ne, gd, inb_t (show cnt (tb bx) k < 6 by omega) (by omega), ix_nI (show cnt (tb bx) k < 2 ^ 31 by omega), lt, nI_1]
      · show (wI h 32 (cnt (tb bx) k) (nI k)).1 32 (cnt (tb bx) b) = nI b
        by_cases z : b = k
        · rw [z, wI_s]
        · have hlt : cnt (tb bx) b < cnt (tb bx) k := by
            have := cnt_mono (tb bx) (show b + 1 ≤ k by omega)
            have e2 : cnt (tb bx) (b + 1) = cnt (tb bx) b + 1 := by show cnt (tb bx) b + (if tb bx b then 1 else 0) = _; rw [h1]; rfl
            omega
          rw [wI_o (by omega)]; exact i3 b (by omega) h1
    | false =>
      have e1 : cnt (tb bx) (k + 1) = cnt (tb bx) k := by show cnt (tb bx) k + (if tb bx k then 1 else 0) = _; rw [q]; rfl
      have bi' : ¬ ((nI bx >>> (nI k &&& 31)) &&& 1 = 1) := fun z => by rw [bi.mp z] at q; cases q
      refine ⟨(nI (cnt (tb bx) (k + 1)), nI (k + 1), h), ?_, rfl, rfl, fun b hb h1 => ?_, i4, i5⟩
      · rw [e1]
        simp only [f12_join_40_s, f12_join_72, b12, nI_ge hk (show S 0 0 < 2 ^ 31 by omega), if_false, isOf_eq, bi', if_true, Option.bind_some, nI_1]
      · by_cases z : b = k
        · rw [z, q] at h1; cases h1
        · exact i3 b (by omega) h1)
  dsimp only at i1 i2 i3 i4 i5
  subst i1 i2
  refine ⟨h, ?_, fun b hb h1 => i3 b (by
    rcases Nat.lt_or_ge b (S 0 0) with z | z
    · exact z
    · rw [hi b hb z] at h1; cases h1) h1, i4, i5⟩
  rw [e, ec]
  refine lp_inr ?_
  simp only [f12_join_40_s, (i4 0 12 (by omega)).trans h12, nI_le (Nat.le_refl (S 0 0)) (show S 0 0 < 2 ^ 31 by omega), if_true]
theorem lappedM {S : Sp} {n : Nat} {mem : Nat → Nat} {w : Int32} {m : Hp} (w0 : wfNow S) (hM : nowM S m) (hp : m.1 0 61 = 0) (hn : n ≤ 6) (hm : ∀ i, i < n → mem i < S 0 0 ∧ m.1 32 i = nI (mem i)) : ∃ h, f12_join_101 w (nI n) 0 m = f12_join_159 w (nI n) h ∧ (∀ i k, i < n → k < n → h.1 33 (6 * i + k) = nI (ovm (fun i k => nI (hS S i k)) (mem i) (mem k) 7)) ∧ (∀ q k, q ≠ 33 → h.1 q k = m.1 q k) ∧ h.2 = m.2 := by
  unfold f12_join_101
  obtain ⟨⟨a, h⟩, e, i1, i2, i3, i4⟩ := lp_walk (f := fun z : Int32 × Hp => f12_join_101_s w (nI n) z.1 z.2) (fun i z => z.1 = nI i ∧ (∀ j k, j < i → k < n → z.2.1 33 (6 * j + k) = nI (ovm (fun i k => nI (hS S i k)) (mem j) (mem k) 7)) ∧ (∀ q k, q ≠ 33 → z.2.1 q k = m.1 q k) ∧ z.2.2 = m.2) n (0, m) ⟨rfl, fun j k hj => by omega, fun _ _ _ => rfl, rfl⟩ (fun i z hi hI => by
    obtain ⟨a, h⟩ := z
    dsimp only at hI
    obtain ⟨rfl, i2, i3, i4⟩ := hI
    obtain ⟨⟨b, h2⟩, e, j1, j2, j3, j4, j5⟩ := lp_walk (f := fun z : Int32 × Hp => f12_join_110_s w (nI n) (nI i) z.1 z.2) (fun u z => z.1 = nI u ∧ (∀ j k, j < i → k < n → z.2.1 33 (6 * j + k) = nI (ovm (fun i k => nI (hS S i k)) (mem j) (mem k) 7)) ∧ (∀ q k, q ≠ 33 → z.2.1 q k = m.1 q k) ∧ z.2.2 = m.2 ∧ ∀ k, k < u → z.2.1 33 (6 * i + k) = nI (ovm (fun i k => nI (hS S i k)) (mem i) (mem k) 7)) n (0, h) ⟨rfl, i2, i3, i4, fun k hk => by omega⟩ (fun u z hu hI => by
      obtain ⟨b, h2⟩ := z
      dsimp only at hI
      obtain ⟨rfl, j2, j3, j4, j5⟩ := hI
      have F : frM m h2 := ⟨fun q k n => j3 q k (fun e => n (by unfold scrM; omega)), by rw [j4], by rw [j4]⟩
      have eo := overlapM w0 (hM.fr w0 F) ((j3 0 61 (by omega)).trans hp) (hm i hi).1 (hm u hu).1
      have v1 : h2.1 32 i = nI (mem i) := (j3 _ _ (by omega)).trans (hm i hi).2
      have v2 : h2.1 32 u = nI (mem u) := (j3 _ _ (by omega)).trans (hm u hu).2
      have e6 : (6 * nI i + nI u : Int32) = nI (6 * i + u) := by rw [lit, pk_mul, nI_add]
      generalize hvv : nI (ovm (fun i k => nI (hS S i k)) (mem i) (mem u) 7) = vv at eo
      refine ⟨(nI (u + 1), wI h2 33 (6 * i + u) vv), ?_, rfl, fun j k hj hk => ?_, fun q k n1 => (wI_o (by omega)).trans (j3 q k n1), j4, fun k hk => ?_⟩
      · simp only [f12_join_110_s, nI_ge hu (show n < 2 ^ 31 by omega), if_false, gd, inb_t (show i < 6 by omega) (by omega), inb_t (show u < 6 by omega) (by omega), ix_nI (show i < 2 ^ 31 by omega), ix_nI (show u < 2 ^ 31 by omega), if_true, v1, v2, eo, Option.bind_some, e6, inb_t (show 6 * i + u < 36 by omega) (by omega), ix_nI (show 6 * i + u < 2 ^ 31 by omega), lt, nI_1]
      · show (wI h2 33 (6 * i + u) vv).1 33 (6 * j + k) = _
        rw [wI_o (by omega)]; exact j2 j k hj hk
      · show (wI h2 33 (6 * i + u) vv).1 33 (6 * i + k) = _
        by_cases z : k = u
        · subst z
          rw [wI_s]
          exact hvv.symm
        · rw [wI_o (by omega)]; exact j5 k (by omega))
    dsimp only at j1 j2 j3 j4 j5
    subst j1
    refine ⟨(nI (i + 1), h2), ?_, rfl, fun j k hj hk => ?_, j3, j4⟩
    · simp only [f12_join_101_s, nI_ge hi (show n < 2 ^ 31 by omega), if_false, f12_join_110]
      show lp _ (0, h) = _
      rw [e]
      refine lp_inr (o := some _) ?_
      simp only [f12_join_110_s, f12_join_153, nI_le (Nat.le_refl n) (show n < 2 ^ 31 by omega), if_true, Option.map_some, nI_1]
    · by_cases z : j = i
      · rw [z]; exact j5 k hk
      · exact j2 j k (by omega) hk)
  dsimp only at i1 i2 i3 i4
  subst i1
  refine ⟨h, ?_, i2, i3, i4⟩
  rw [e]
  refine lp_inr ?_
  simp only [f12_join_101_s, nI_le (Nat.le_refl n) (show n < 2 ^ 31 by omega), if_true]
