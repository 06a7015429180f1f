/-! The ear: what is heard of all boxes; calls that compare boxes. -/
def sb (H : Nat → Nat → Nat) (a k b j : Nat) : Bool := decide (0 < H a k ∧ H a k = H b j)
theorem ite_sb {α : Type} (H : Nat → Nat → Nat) (a k b j : Nat) (A B : α) : (if H a k ≤ 0 then A else if H a k = H b j then B else A) = if sb H a k b j = true then B else A := by
  unfold sb
  by_cases q1 : H a k ≤ 0
  · rw [if_pos q1, if_neg (by rw [decide_eq_true_eq]; omega)]
  · rw [if_neg q1]
    by_cases q2 : H a k = H b j
    · rw [if_pos q2, if_pos (by rw [decide_eq_true_eq]; omega)]
    · rw [if_neg q2, if_neg (by rw [decide_eq_true_eq]; omega)]
def alk (H : Nat → Nat → Nat) (a b t : Nat) : Nat := cnt (fun k => sb H a k b ((k + t) % 8)) 8
theorem alk_le (H : Nat → Nat → Nat) (a b t : Nat) : alk H a b t ≤ 8 := cnt_le _ 8
def Ln (S : Sp) (c : Hp) (i j : Nat) (h : Hp) : Prop := (∀ q, q ≠ 46 → h.1 q = c.1 q) ∧ h.2 = c.2 ∧ ∀ a k, k < 8 → (a < i ∨ a = i ∧ k < j) → h.1 46 (8 * a + k) = nI (hS S a k)
theorem Ln.fr {S : Sp} {c h : Hp} {i j : Nat} (l : Ln S c i j h) : frC c h := ⟨fun q k n => by rw [l.1 q (fun e => n (by unfold scrC; omega))], by rw [l.2.1]⟩
theorem listen_in {S : Sp} {c h : Hp} {i : Nat} (w : wfNow S) (hC : nowC S c) (hi : i < S 0 0) (hL : Ln S c i 0 h) : Tt (f2_listen_12 6 (nI i) 0 h) (fun r => ∃ h', r = .inl (nI (i + 1), h') ∧ Ln S c (i + 1) 0 h') := by
  have hn := w.1
  unfold f2_listen_12
  refine tt_lp (I := fun n (s : Int32 × Hp) => ∃ j, j ≤ 8 ∧ n = 8 - j ∧ s.1 = nI j ∧ Ln S c i j s.2) (fun n s hI => ?_) 8 (0, h) ⟨0, by omega, rfl, rfl, hL⟩
  obtain ⟨j, hj, hnj, e1, l⟩ := hI
  obtain ⟨x3, h3⟩ := s
  have e1 : x3 = nI j := e1
  have l : Ln S c i j h3 := l
  subst e1
  by_cases h8 : j = 8
  · subst h8
    have e : f2_listen_12_s 6 (nI i) (nI 8) h3 = some (.inr (.inl (nI (i + 1), h3))) := by
      simp only [f2_listen_12_s, f2_listen_45, lit, nI_le (Nat.le_refl 8) (show 8 < 2 ^ 31 by omega), if_true, nI_1, Option.map_some, nI_add]
    refine tt_eq e ⟨h3, rfl, l.1, l.2.1, fun a k hk h => l.2.2 a k hk (by omega)⟩
  · have hC3 := hC.fr w l.fr
    have e : f2_listen_12_s 6 (nI i) (nI j) h3 = some (.inl (nI (j + 1), wI h3 46 (8 * i + j) (nI (hS S i j)))) := by
      have e2 : (nI i * 8 + nI j : Int32) = nI (8 * i + j) := by rw [lit, pk_mul, nI_add, Nat.mul_comm]
      have hg : ¬ (8 : Int32) ≤ nI j := by rw [lit]; exact nI_ge (by omega) (by omega)
      simp only [f2_listen_12_s, hg, if_false, gd, inb_t (show i < 6 by omega) (by omega), if_true, ix_nI (show i < 2 ^ 31 by omega), show 6 + 1 + 1 + 2 * i = 8 + 2 * i by omega, heardNow_nI w hC3 hi (show j < 8 by omega), Option.bind_some, e2, inb_t (show 8 * i + j < 48 by omega) (by omega), ix_nI (show 8 * i + j < 2 ^ 31 by omega), lt, nI_1]
    refine tt_eq e ⟨8 - (j + 1), by omega, j + 1, by omega, rfl, rfl, ?_, ?_, ?_⟩
    · intro q hq
      funext k
      rw [wI_o (by omega)]
      exact congrFun (l.1 q hq) k
    · rw [wI_2]; exact l.2.1
    · intro a k hk h
      show (wI h3 46 (8 * i + j) (nI (hS S i j))).1 46 (8 * a + k) = _
      by_cases hak : a = i ∧ k = j
      · obtain ⟨rfl, rfl⟩ := hak; rw [wI_s]
      · rw [wI_o (by omega)]
        exact l.2.2 a k hk (by omega)
theorem listen_ex {S : Sp} {c : Hp} (w : wfNow S) (hC : nowC S c) : ∃ c', f2_listen 6 c = some c' ∧ Ln S c (S 0 0) 0 c' := by
  have hn := w.1
  unfold f2_listen f2_listen_2
  refine tt_lp (f := fun z : Int32 × Hp => f2_listen_2_s 6 z.1 z.2) (Q := fun c' => Ln S c (S 0 0) 0 c') (I := fun n (s : Int32 × Hp) => ∃ i, i ≤ S 0 0 ∧ n = S 0 0 - i ∧ s.1 = nI i ∧ Ln S c i 0 s.2) (fun n s hI => ?_) (S 0 0) (0, c) ⟨0, by omega, rfl, rfl, fun _ _ => rfl, rfl, fun a k hk h => by omega⟩
  obtain ⟨i, hi, hni, e1, l⟩ := hI
  obtain ⟨x2, h2⟩ := s
  have e1 : x2 = nI i := e1
  have l : Ln S c i 0 h2 := l
  subst e1
  have hc : h2.1 6 1 = nI (S 0 0) := by rw [l.1 6 (by omega)]; exact hC.1
  by_cases he : i = S 0 0
  · subst he
    have e : f2_listen_2_s 6 (nI (S 0 0)) h2 = some (.inr h2) := by
      simp only [f2_listen_2_s, hc, nI_le (Nat.le_refl (S 0 0)) (show S 0 0 < 2 ^ 31 by omega), if_true]
    exact tt_eq e l
  · have hlt : i < S 0 0 := by omega
    show Tt (f2_listen_2_s 6 (nI i) h2) _
    simp only [f2_listen_2_s, hc, nI_ge hlt (show S 0 0 < 2 ^ 31 by omega), if_false]
    refine tt_mono (listen_in w hC hlt l) ?_
    rintro r ⟨h', rfl, l'⟩
    exact ⟨S 0 0 - (i + 1), by omega, i + 1, by omega, rfl, rfl, l'⟩
/-- the ear's table holds what is heard -/
def ear (S : Sp) (h : Hp) : Prop := ∀ a k, a < S 0 0 → k < 8 → h.1 46 (8 * a + k) = nI (hS S a k)
theorem Ln.ear {S : Sp} {c h : Hp} (l : Ln S c (S 0 0) 0 h) : ear S h := fun a k ha hk => l.2.2 a k hk (Or.inl ha)
theorem at_eq {S : Sp} {h : Hp} {a k : Nat} (e : ear S h) (hn : S 0 0 ≤ 6) (ha : a < S 0 0) (hk : k < 8) : f2_at (nI a) (nI k) h = some (nI (hS S a k)) := by
  have e2 : (nI a * 8 + nI k : Int32) = nI (8 * a + k) := by rw [lit, pk_mul, nI_add, Nat.mul_comm]
  simp only [f2_at, e2, gd, inb_t (show 8 * a + k < 48 by omega) (by omega), if_true, ix_nI (show 8 * a + k < 2 ^ 31 by omega), e a k ha hk]
theorem hS_le (S : Sp) (a k : Nat) : hS S a k ≤ 9 := hN_le
theorem sameAbove_eq {S : Sp} {h : Hp} {a k b j : Nat} (e : ear S h) (hn : S 0 0 ≤ 6) (ha : a < S 0 0) (hk : k < 8) (hb : b < S 0 0) (hj : j < 8) : f2_sameAbove (nI a) (nI k) (nI b) (nI j) h = some (if sb (hS S) a k b j = true then 1 else 0) := by
  have h1 := hS_le S a k
  have h2 := hS_le S b j
  simp only [f2_sameAbove, f2_sameAbove_29, at_eq e hn ha hk, at_eq e hn hb hj, Option.bind_some]
  simp (disch := omega) only [lit, nI_leI, nI_eq]
  rw [ite_sb]
  split <;> rfl
theorem alikeByC {S : Sp} {h : Hp} {a b t : Nat} (e : ear S h) (hn : S 0 0 ≤ 6) (ha : a < S 0 0) (hb : b < S 0 0) (ht : t < 8) : f2_alikeBy (nI a) (nI b) (nI t) h = some (nI (alk (hS S) a b t)) := by
  unfold f2_alikeBy f2_alikeBy_6 alk
  refine lp_for1 (f := fun z : Int32 × Int32 => f2_alikeBy_6_s (nI a) (nI b) (nI t) z.1 z.2 h) (fun k => (nI (cnt (fun k => sb (hS S) a k b ((k + t) % 8)) k), nI k)) 8 (fun k hk => ?_) ?_
  · have hg : ¬ (8 : Int32) ≤ nI k := by rw [lit]; exact nI_ge (by omega) (by omega)
    have er : ((nI k + nI t) - (nI k + nI t) / 8 * 8 : Int32) = nI ((k + t) % 8) := by rw [nI_add, lit]; exact pk_rem (by omega) (by omega) (by omega)
    simp only [f2_alikeBy_6_s, f2_alikeBy_34, hg, if_false, er, sameAbove_eq e hn ha hk hb (show (k + t) % 8 < 8 by omega), Option.bind_some, nI_1, cnt]
    rcases Bool.eq_false_or_eq_true (sb (hS S) a k b ((k + t) % 8)) with q | q <;> simp [q]
  · simp only [f2_alikeBy_6_s, lit, nI_le (Nat.le_refl 8) (show 8 < 2 ^ 31 by omega), if_true]
theorem alikeByM {S : Sp} {m : Hp} {a b t : Nat} (w : wfNow S) (hM : nowM S m) (hp : m.1 0 61 = 0) (ha : a < S 0 0) (hb : b < S 0 0) (ht : t < 8) : f12_alikeBy (nI a) (nI b) (nI t) m = some (nI (alk (hS S) a b t)) := by
  have hn := w.1
  unfold f12_alikeBy f12_alikeBy_6 alk
  refine lp_for1 (f := fun z : Int32 × Int32 => f12_alikeBy_6_s (nI a) (nI b) (nI t) z.1 z.2 m) (fun k => (nI (cnt (fun k => sb (hS S) a k b ((k + t) % 8)) k), nI k)) 8 (fun k hk => ?_) ?_
  · have hg : ¬ (8 : Int32) ≤ nI k := by rw [lit]; exact nI_ge (by omega) (by omega)
    have er : ((nI k + nI t) - (nI k + nI t) / 8 * 8 : Int32) = nI ((k + t) % 8) := by rw [nI_add, lit]; exact pk_rem (by omega) (by omega) (by omega)
    have h1 := hS_le S a k
    have h2 := hS_le S b ((k + t) % 8)
    simp only [f12_alikeBy_6_s, f12_alikeBy_52, f12_alikeBy_53, lt, hg, if_false, er, heardIn_nI w hM ha hk hp, heardIn_nI w hM hb (show (k + t) % 8 < 8 by omega) hp, Option.bind_some, nI_1, cnt]
    simp (disch := omega) only [lit, nI_leI, nI_eq, nI_add]
    rw [ite_sb]
    rcases Bool.eq_false_or_eq_true (sb (hS S) a k b ((k + t) % 8)) with q | q <;> simp [q]
  · simp only [f12_alikeBy_6_s, lit, nI_le (Nat.le_refl 8) (show 8 < 2 ^ 31 by omega), if_true]
theorem op_alike {S : Sp} {c m : Hp} (w : wfNow S) (hC : nowC S c) (hM : nowM S m) (x y z : Int32) : ∃ r c' m', f11_alike x y z c = some (r, c') ∧ f12_alike x y z m = some (r, m') ∧ frC c c' ∧ frM m m' := by
  have hn := w.1
  obtain ⟨m1, e1, f1, p58, p59, p60, p61, p62, pf, pj⟩ := plain_ex (m0 m)
  have fr := (m0_fr m).tr f1
  have hM1 := hM.fr w fr
  obtain ⟨c1, ec, l⟩ := listen_ex w hC
  simp only [f11_alike, f12_alike, lt, f12_alike_42, isBoxC, isBoxM, isWithin_eq, isPlace_eq, hC.1, show f12_plainTried (wI m 0 2 0) = some m1 from e1, Option.bind_some, hM1.1, ec]
  rcases bi_cases x (S 0 0) (by omega) with h | ⟨i, hi, rfl, h⟩
  · simp only [h, if_true]; exact ⟨_, _, _, rfl, rfl, frC.rf, fr⟩
  · rcases bi_cases y (S 0 0) (by omega) with h2 | ⟨j, hj, rfl, h2⟩
    · simp only [h, h2, if_true, one_ne, if_false]; exact ⟨_, _, _, rfl, rfl, frC.rf, fr⟩
    · rcases wi_cases z 0 7 (by omega) (by omega) with h3 | ⟨k, -, hk, rfl, h3⟩
      · simp only [h, h2, show wi z 0 7 = 0 from h3, if_true, one_ne, if_false]; exact ⟨_, _, _, rfl, rfl, frC.rf, fr⟩
      · simp only [h, h2, show wi (nI k) 0 7 = 1 from h3, one_ne, if_false, alikeByC l.ear hn hi hj (show k < 8 by omega), alikeByM w hM1 p61 hi hj (show k < 8 by omega), Option.bind_some]
        exact ⟨_, _, _, rfl, rfl, l.fr, fr⟩
