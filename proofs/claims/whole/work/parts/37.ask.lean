/-! ask. -/
def mx (f : Nat → Nat) : Nat → Nat
  | 0 => 0
  | n + 1 => if mx f n < f n then f n else mx f n
theorem mx_le {f : Nat → Nat} {B : Nat} : ∀ {n : Nat}, (∀ i, i < n → f i ≤ B) → mx f n ≤ B
  | 0, _ => Nat.zero_le _
  | n + 1, h => by
    unfold mx
    split
    · exact h n (by omega)
    · exact mx_le (fun i hi => h i (by omega))
theorem le_mx {f : Nat → Nat} : ∀ {n i : Nat}, i < n → f i ≤ mx f n
  | 0, _, h => absurd h (by omega)
  | n + 1, i, h => by
    unfold mx
    by_cases e : i = n
    · subst e; split <;> omega
    · have := le_mx (f := f) (show i < n by omega)
      split <;> omega
theorem cnt_pos {p : Nat → Bool} : ∀ {n : Nat}, 0 < cnt p n → ∃ i, i < n ∧ p i = true
  | 0, h => absurd h (by simp [cnt])
  | n + 1, h => by
    unfold cnt at h
    by_cases e : p n = true
    · exact ⟨n, by omega, e⟩
    · rw [if_neg e] at h
      obtain ⟨i, hi, hp⟩ := cnt_pos (p := p) (n := n) (by omega)
      exact ⟨i, by omega, hp⟩
theorem cnt_ext {p : Nat → Bool} {n : Nat} : ∀ {d : Nat}, (∀ i, n ≤ i → i < n + d → p i = false) → cnt p (n + d) = cnt p n
  | 0, _ => rfl
  | d + 1, h => by
    show cnt p (n + d) + (if p (n + d) then 1 else 0) = _
    rw [h (n + d) (by omega) (by omega), if_neg (by decide), cnt_ext (d := d) (fun i h1 h2 => h i h1 (by omega)), Nat.add_zero]
theorem or_all : ∀ n, n < 6 → ∀ x, x < 2 ^ n → nI x ||| ((1 : Int32) <<< (nI n &&& 31)) = nI (x + 2 ^ n) := by decide +kernel
theorem tb_all : ∀ n, n < 6 → ∀ x, x < 2 ^ n → ∀ j, j < 6 → tb (x + 2 ^ n) j = (decide (j = n) || tb x j) := by decide +kernel
def bN (p : Nat → Bool) : Nat → Nat
  | 0 => 0
  | n + 1 => if p n then bN p n + 2 ^ n else bN p n
theorem bN_lt (p : Nat → Bool) : ∀ n, bN p n < 2 ^ n
  | 0 => Nat.zero_lt_one
  | n + 1 => by
    have := bN_lt p n
    unfold bN
    have e : 2 ^ (n + 1) = 2 ^ n * 2 := Nat.pow_succ ..
    split <;> omega
theorem orB_nI (p : Nat → Bool) : ∀ {n : Nat}, n ≤ 6 → orB p n = nI (bN p n)
  | 0, _ => rfl
  | n + 1, h => by
    unfold orB bN
    rw [orB_nI p (n := n) (by omega)]
    split
    · exact or_all n (by omega) _ (bN_lt p n)
    · rfl
theorem tb_z : ∀ j, j < 6 → tb 0 j = false := by decide
theorem bN_tb (p : Nat → Bool) : ∀ {n j : Nat}, n ≤ 6 → j < 6 → tb (bN p n) j = (decide (j < n) && p j)
  | 0, j, _, hj => by rw [show bN p 0 = 0 from rfl, tb_z j hj]; simp
  | n + 1, j, h, hj => by
    unfold bN
    have ih := bN_tb p (n := n) (j := j) (by omega) hj
    by_cases e : p n = true
    · rw [if_pos e, tb_all n (by omega) _ (bN_lt p n) j hj, ih]
      by_cases q : j = n
      · subst q; simp [e]
      · have : decide (j < n + 1) = decide (j < n) := by
          by_cases z : j < n
          · rw [decide_eq_true z, decide_eq_true (show j < n + 1 by omega)]
          · rw [decide_eq_false z, decide_eq_false (show ¬ j < n + 1 by omega)]
        rw [decide_eq_false q, this]; rfl
    · rw [if_neg e, ih]
      by_cases q : j = n
      · subst q; simp [e]
      · have : decide (j < n + 1) = decide (j < n) := by
          by_cases z : j < n
          · rw [decide_eq_true z, decide_eq_true (show j < n + 1 by omega)]
          · rw [decide_eq_false z, decide_eq_false (show ¬ j < n + 1 by omega)]
        rw [this]
theorem bN_31 (p : Nat → Bool) {n : Nat} (h : n ≤ 6) : bN p n < 64 := by
  have h1 := bN_lt p n
  have h2 : 2 ^ n ≤ 2 ^ 6 := Nat.pow_le_pow_right (by omega) h
  omega
theorem orB_bit (p : Nat → Bool) {n j : Nat} (h : n ≤ 6) (hj : j < 6) : ((orB p n >>> (nI j &&& 31)) &&& 1 = 1) ↔ (decide (j < n) && p j) = true := by
  have := bN_31 p h
  rw [orB_nI p h, bit1 (by omega) (by omega), bN_tb p h hj]
def msC (E : Nat → Int32) (bt : Nat → Bool) : Nat := mx (fun one => if bt one then cnt (fun o => bt o && decide (E one = E o)) 6 else 0) 6
theorem at_raw {c : Hp} {i k : Nat} (hi : i < 6) (hk : k < 8) : f2_at (nI i) (nI k) c = some (c.1 46 (8 * i + k)) := by
  have e : (nI i * 8 + nI k : Int32) = nI (8 * i + k) := by rw [lit, pk_mul, nI_add, Nat.mul_comm]
  simp only [f2_at, e, gd, inb_t (show 8 * i + k < 48 by omega) (by omega), if_true, ix_nI (show 8 * i + k < 2 ^ 31 by omega)]
theorem mostSame_eq {c : Hp} {bt : Nat → Bool} {x : Int32} {k : Nat} (hk : k < 8) (hb : ∀ j, j < 6 → ((x >>> (nI j &&& 31)) &&& 1 = 1 ↔ bt j = true)) : f2_mostSame x (nI k) c = some (nI (msC (fun i => c.1 46 (8 * i + k)) bt)) := by
  unfold f2_mostSame f2_mostSame_5 msC
  refine lp_for1 (f := fun z : Int32 × Int32 => f2_mostSame_5_s x (nI k) z.1 z.2 c) (fun i => (nI (mx (fun one => if bt one then cnt (fun o => bt o && decide (c.1 46 (8 * one + k) = c.1 46 (8 * o + k))) 6 else 0) i), nI i)) 6 (fun i hi => ?_) ?_
  · simp only [f2_mostSame_5_s, g6 hi, if_false, f2_mostSame_18]
    refine lp_for1 (f := fun z : Int32 × Int32 => f2_mostSame_18_s x (nI k) _ (nI i) z.1 z.2 c) (fun j => (nI (cnt (fun o => bt o && decide (c.1 46 (8 * i + k) = c.1 46 (8 * o + k))) j), nI j)) 6 (fun j hj => ?_) ?_
    · simp only [f2_mostSame_18_s, f2_mostSame_55, g6 hj, if_false, at_raw hi hk, at_raw hj hk, Option.bind_some, hb j hj, cnt, nI_1]
      by_cases q : bt j = true
      · by_cases q2 : c.1 46 (8 * i + k) = c.1 46 (8 * j + k)
        · simp [q, q2]
        · simp [q, q2]
      · simp [q]
    · simp only [f2_mostSame_18_s, f2_mostSame_61, f2_mostSame_78, l6, if_true, hb i hi, lt, nI_1]
      have h1 : cnt (fun o => bt o && decide (c.1 46 (8 * i + k) = c.1 46 (8 * o + k))) 6 ≤ 6 := cnt_le _ 6
      have h2 : mx (fun one => if bt one then cnt (fun o => bt o && decide (c.1 46 (8 * one + k) = c.1 46 (8 * o + k))) 6 else 0) i ≤ 6 := mx_le (fun z _ => by
        show (if bt z then _ else 0) ≤ 6
        split
        · exact cnt_le _ 6
        · omega)
      by_cases q : bt i = true
      · simp only [q, if_true, mx]
        simp (disch := omega) only [nI_ltI]
        split <;> rfl
      · simp only [q, mx]; simp
  · simp only [f2_mostSame_5_s, l6, if_true]
def msM (H : Nat → Nat) (bt : Nat → Bool) (n : Nat) : Nat := mx (fun h => cnt (fun o => bt o && decide (H o = h)) n) 10
theorem worstAt_eq {S : Sp} {m : Hp} {bt : Nat → Bool} {x : Int32} {k : Nat} (w : wfNow S) (hM : nowM S m) (hp : m.1 0 61 = 0) (hk : k < 8) (hb : ∀ j, j < 6 → ((x >>> (nI j &&& 31)) &&& 1 = 1 ↔ bt j = true)) : f12_worstAt x (nI k) m = some (nI (msM (fun i => hS S i k) bt (S 0 0))) := by
  have hn := w.1
  unfold f12_worstAt f12_worstAt_5 msM
  refine lp_for1 (f := fun z : Int32 × Int32 => f12_worstAt_5_s x (nI k) z.1 z.2 m) (fun i => (nI (mx (fun h => cnt (fun o => bt o && decide (hS S o k = h)) (S 0 0)) i), nI i)) 10 (fun i hi => ?_) ?_
  · simp only [f12_worstAt_5_s, g10 hi, if_false, f12_worstAt_18]
    refine lp_for1 (f := fun z : Int32 × Int32 => f12_worstAt_18_s x (nI k) _ (nI i) z.1 z.2 m) (fun j => (nI (cnt (fun o => bt o && decide (hS S o k = i)) j), nI j)) (S 0 0) (fun j hj => ?_) ?_
    · have h9 := hS_le S j k
      simp only [f12_worstAt_18_s, f12_worstAt_55, f12_worstAt_56, lt, hM.1, nI_ge hj (show S 0 0 < 2 ^ 31 by omega), if_false, isOf_eq, hb j (by omega), Option.bind_some, heardIn_nI w hM hj hk hp, cnt, nI_1]
      by_cases q : bt j = true
      · by_cases q2 : hS S j k = i
        · simp [q, q2, nI_1]
        · have : ¬ nI (hS S j k) = nI i := by rw [nI_eq (by omega) (by omega)]; exact q2
          simp [q, q2, this]
      · simp [q]
    · simp only [f12_worstAt_18_s, f12_worstAt_65, f12_worstAt_77, hM.1, nI_le (Nat.le_refl (S 0 0)) (show S 0 0 < 2 ^ 31 by omega), if_true, nI_1]
      have h1 : cnt (fun o => bt o && decide (hS S o k = i)) (S 0 0) ≤ S 0 0 := cnt_le _ _
      have h2 : mx (fun h => cnt (fun o => bt o && decide (hS S o k = h)) (S 0 0)) i ≤ S 0 0 := mx_le (fun z _ => cnt_le _ _)
      simp (disch := omega) only [nI_leI, mx]
      split
      · rw [if_neg (by omega)]; rfl
      · rw [if_pos (by omega)]; rfl
  · simp only [f12_worstAt_5_s, l10, if_true]
theorem ms_eq {E : Nat → Int32} {H : Nat → Nat} {bt : Nat → Bool} {n : Nat} (hn : n ≤ 6) (hE : ∀ i, i < n → E i = nI (H i)) (hH : ∀ i, H i ≤ 9) (hb : ∀ j, j < 6 → bt j = true → j < n) : msC E bt = msM H bt n := by
  have hc : ∀ one, bt one = true → one < 6 → cnt (fun o => bt o && decide (E one = E o)) 6 = cnt (fun o => bt o && decide (H o = H one)) n := by
    intro one h1 h6
    have hl := hb one h6 h1
    rw [show (6 : Nat) = n + (6 - n) by omega, cnt_ext]
    · refine cnt_congr (fun i hi => ?_)
      rw [hE one hl, hE i hi]
      have z1 := hH one
      have z2 := hH i
      congr 1
      by_cases q : H i = H one
      · rw [q]; simp
      · rw [decide_eq_false q, decide_eq_false (by rw [nI_eq (by omega) (by omega)]; omega)]
    · intro i h1 h2
      have : ¬ bt i = true := fun q => by have := hb i (by omega) q; omega
      simp [this]
  unfold msC msM
  apply Nat.le_antisymm
  · refine mx_le (fun one h6 => ?_)
    by_cases q : bt one = true
    · rw [if_pos q, hc one q h6]
      exact le_mx (f := fun h => cnt (fun o => bt o && decide (H o = h)) n) (by have := hH one; omega)
    · rw [if_neg q]; omega
  · refine mx_le (fun h h10 => ?_)
    by_cases q : 0 < cnt (fun o => bt o && decide (H o = h)) n
    · obtain ⟨i, hi, hp⟩ := cnt_pos q
      simp only [Bool.and_eq_true, decide_eq_true_eq] at hp
      have := le_mx (f := fun one => if bt one then cnt (fun o => bt o && decide (E one = E o)) 6 else 0) (n := 6) (i := i) (by omega)
      simp only [hp.1, if_true] at this
      rw [hc i hp.1 (by omega), hp.2] at this
      exact this
    · omega
theorem op_ask {S : Sp} {c m : Hp} (w0 : wfNow S) (w : wfFnd S) (hC0 : nowC S c) (hM0 : nowM S m) (hC : fndC S c) (hM : fndM S m) (x : Int32) : ∃ r c' m', f11_ask x c = some (r, c') ∧ f12_ask x m = some (r, m') ∧ frC c c' ∧ frM m m' := by
  have hn := w0.1
  obtain ⟨m1, em, fr⟩ := m0_ex m
  simp only [f11_ask, f12_ask, em, lt, isWithin_eq, isIn_eq, Option.bind_some]
  rcases wi_cases x 0 1 (by omega) (by omega) with h3 | ⟨y, -, hy, rfl, h3⟩
  · simp only [show wi x 0 1 = 0 from h3, if_true]; exact ⟨_, _, _, rfl, rfl, frC.rf, fr⟩
  · obtain ⟨r, c2, m2, e1, e2, fc, fm, p, rfl⟩ := whose_ex w0 w hC0 hM0 hC hM
    have hC2 := hC0.fr w0 fc
    have hM2 := hM0.fr w0 fm
    obtain ⟨c3, ec, l⟩ := listen_ex w0 hC2
    obtain ⟨m3, e3, f3, p58, p59, p60, p61, p62, pf, pj⟩ := plain_ex m2
    have hM3 := hM2.fr w0 f3
    simp only [show wi (nI y) 0 1 = 1 from h3, one_ne, if_false, e1, e2, Option.bind_some, ec, e3, f11_ask_32, f12_ask_30]
    have hb : ∀ j, j < 6 → (((orB p (S 0 0)) >>> (nI j &&& 31)) &&& 1 = 1 ↔ (decide (j < S 0 0) && p j) = true) := fun j hj => orB_bit p hn hj
    have vC : ∀ k, k < 8 → f2_mostSame (orB p (S 0 0)) (nI k) c3 = some (nI (msM (fun i => hS S i k) (fun j => decide (j < S 0 0) && p j) (S 0 0))) := fun k hk => by
      rw [mostSame_eq (bt := fun j => decide (j < S 0 0) && p j) hk hb, ms_eq (H := fun i => hS S i k) hn (fun i hi => l.ear i k hi hk) (fun i => hS_le S i k) (fun j _ hj => by simp at hj; exact hj.1)]
    have vM : ∀ k, k < 8 → f12_worstAt (orB p (S 0 0)) (nI k) m3 = some (nI (msM (fun i => hS S i k) (fun j => decide (j < S 0 0) && p j) (S 0 0))) := fun k hk => worstAt_eq w0 hM3 p61 hk hb
    have key := lp_sim (f := fun z : Int32 × Int32 => f11_ask_32_s (nI y) (orB p (S 0 0)) z.1 z.2 c3) (g := fun z : Int32 × Int32 => f12_ask_30_s (nI y) (orB p (S 0 0)) z.1 z.2 m3) (Q := fun r r' => ∃ v, r = (v, c3) ∧ r' = (v, m3)) (I := fun n s s' => ∃ b t, b < 8 ∧ t ≤ 8 ∧ n = 8 - t ∧ s = s' ∧ s = (nI b, nI t)) ?_ 7 (0, 1) (0, 1) ⟨0, 1, by omega, by omega, rfl, rfl, rfl⟩
    · obtain ⟨r, r', e, e', v, rfl, rfl⟩ := key
      exact ⟨v, c3, m3, e, e', fc.tr l.fr, fm.tr f3⟩
    · rintro n s _ ⟨b, t, hb8, ht, hnt, rfl, rfl⟩
      by_cases he : t = 8
      · subst he
        by_cases hk0 : nI y = 0
        · refine ⟨.inr (nI b, c3), .inr (nI b, m3), ?_, ?_, nI b, rfl, rfl⟩
          · simp only [f11_ask_32_s, f11_ask_70, l8, if_true, hk0, Option.map_some]
          · simp only [f12_ask_30_s, f12_ask_66, l8, if_true, hk0, Option.map_some]
        · refine ⟨.inr (nI (msM (fun i => hS S i b) (fun j => decide (j < S 0 0) && p j) (S 0 0)), c3), .inr (nI (msM (fun i => hS S i b) (fun j => decide (j < S 0 0) && p j) (S 0 0)), m3), ?_, ?_, _, rfl, rfl⟩
          · simp only [f11_ask_32_s, f11_ask_70, l8, if_true, hk0, if_false, vC b hb8, Option.bind_some, Option.map_some]
          · simp only [f12_ask_30_s, f12_ask_66, l8, if_true, hk0, if_false, vM b hb8, Option.bind_some, Option.map_some]
      · have ht8 : t < 8 := by omega
        by_cases q : nI (msM (fun i => hS S i b) (fun j => decide (j < S 0 0) && p j) (S 0 0)) ≤ nI (msM (fun i => hS S i t) (fun j => decide (j < S 0 0) && p j) (S 0 0))
        · refine ⟨.inl (nI b, nI (t + 1)), .inl (nI b, nI (t + 1)), ?_, ?_, 8 - (t + 1), by omega, b, t + 1, hb8, by omega, rfl, rfl, rfl⟩
          · simp only [f11_ask_32_s, f11_ask_64, g8 ht8, if_false, vC b hb8, vC t ht8, Option.bind_some, q, if_true, nI_1]
          · simp only [f12_ask_30_s, f12_ask_59, g8 ht8, if_false, vM b hb8, vM t ht8, Option.bind_some, q, if_true, nI_1]
        · refine ⟨.inl (nI t, nI (t + 1)), .inl (nI t, nI (t + 1)), ?_, ?_, 8 - (t + 1), by omega, t, t + 1, ht8, by omega, rfl, rfl, rfl⟩
          · simp only [f11_ask_32_s, f11_ask_64, g8 ht8, if_false, vC b hb8, vC t ht8, Option.bind_some, q, nI_1]
          · simp only [f12_ask_30_s, f12_ask_59, g8 ht8, if_false, vM b hb8, vM t ht8, Option.bind_some, q, nI_1]
