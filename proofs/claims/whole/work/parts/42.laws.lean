/-! Laws: what both sides keep of them, and what a law is worth. -/
theorem wJ_2 {h : Hp} {p k : Nat} {v : Int64} : (wJ h p k v).2.2 = h.2.2 := rfl
def push1 (K : Nat → Nat) (st : List Nat) (i : Nat) : List Nat := if K i ≤ 7 then i :: st else if K i = 10 then i :: st.tail else i :: st.tail.tail
def pst (K : Nat → Nat) (f : Nat) : Nat → List Nat
  | 0 => []
  | d + 1 => push1 K (pst K f d) (f + d)
theorem pst_lt {K : Nat → Nat} {f : Nat} : ∀ {d a : Nat}, a ∈ pst K f d → a < f + d
  | 0, a, h => by cases h
  | d + 1, a, h => by
    have h : a ∈ push1 K (pst K f d) (f + d) := h
    unfold push1 at h
    split at h
    · rcases List.mem_cons.mp h with e | e
      · omega
      · have := pst_lt e; omega
    · split at h
      · rcases List.mem_cons.mp h with e | e
        · omega
        · have := pst_lt (List.mem_of_mem_tail e); omega
      · rcases List.mem_cons.mp h with e | e
        · omega
        · have := pst_lt (List.mem_of_mem_tail (List.mem_of_mem_tail e)); omega
theorem pst_len {K : Nat → Nat} {f : Nat} : ∀ d, (pst K f d).length ≤ d
  | 0 => Nat.le_refl 0
  | d + 1 => by
    show (push1 K (pst K f d) (f + d)).length ≤ d + 1
    have := pst_len (K := K) (f := f) d
    unfold push1
    split
    · simp only [List.length_cons]; omega
    · split
      · simp only [List.length_cons, List.length_tail]; omega
      · simp only [List.length_cons, List.length_tail]; omega
/-- what knot i needs of the knots that wait -/
def lawStep (S : Sp) (st : List Nat) (i : Nat) : Prop := (S 40 i ≤ 7 ∧ (S 40 i = 0 → S 44 i = S 41 i ∧ S 41 i ≤ 9999) ∧ (0 < S 40 i → S 44 i = S 40 i - 1)) ∨ (S 40 i = 10 ∧ ∃ t, st = S 44 i :: t) ∨ (bin (S 40 i) ∧ ∃ t, st = S 45 i :: S 44 i :: t)
/-- laws: 40 kinds, 41 numbers, 42 from, 43 until, 44 and 45 the operands -/
def wfLaws (S : Sp) : Prop := S 0 3 ≤ 64 ∧ ∀ l, l < 3 → S 42 l ≤ S 43 l ∧ S 43 l ≤ S 0 3 ∧ (∀ d, d < S 43 l - S 42 l → lawStep S (pst (S 40) (S 42 l) d) (S 42 l + d)) ∧ (S 42 l < S 43 l → (pst (S 40) (S 42 l) (S 43 l - S 42 l)).length = 1)
def lawC (S : Sp) (t : Nat) (c : Hp) : Prop := (t = 55 ∨ t = 78) ∧ (∀ i, i < S 0 3 → c.1 (t + 14 + 1) i = nI (S 40 i) ∧ c.1 (t + 14 + 2) i = nI (S 41 i)) ∧ ∀ l, l < 3 → c.1 (t + 14 + 3) l = nI (S 42 l) ∧ c.1 (t + 14 + 4) l = nI (S 43 l)
def lawM (S : Sp) (m : Hp) : Prop := (∀ i, i < S 0 3 → m.1 17 i = nI (mk (S 40 i)) ∧ m.1 18 i = nI (S 44 i) ∧ (bin (S 40 i) → m.1 19 i = nI (S 45 i))) ∧ ∀ l, l < 3 → m.1 14 l = (if S 42 l < S 43 l then 1 else 0) ∧ (S 42 l < S 43 l → m.1 15 l = nI (S 42 l) ∧ m.1 16 l = nI (S 43 l))
def stk (v V : Nat → Int64) (i : Nat) : List Nat → Prop
  | [] => True
  | a :: t => v t.length = V a ∧ bnd (V a) ∧ a < i ∧ stk v V i t
theorem stk_mono {v v' V V' : Nat → Int64} {i i' : Nat} : ∀ {t : List Nat}, stk v V i t → (∀ k, k < t.length → v' k = v k) → (∀ a, a < i → V' a = V a) → i ≤ i' → stk v' V' i' t
  | [], _, _, _, _ => trivial
  | a :: t, h, h1, h2, h3 => by
    obtain ⟨e, b, l, r⟩ := h
    refine ⟨?_, by rw [h2 a l]; exact b, by omega, stk_mono r (fun k hk => h1 k (by simp only [List.length_cons]; omega)) h2 h3⟩
    rw [h1 t.length (by simp only [List.length_cons]; omega), h2 a l]; exact e
/-- the class beside c: only the row of values may differ -/
def sC (c h : Hp) : Prop := h.1 = c.1 ∧ h.2.2 = c.2.2
def sM (m h : Hp) : Prop := (∀ q j, ¬ (q = 0 ∧ j = 48) → h.1 q j = m.1 q j) ∧ (∀ q, q ≠ 23 → h.2.1 q = m.2.1 q) ∧ h.2.2 = m.2.2
theorem sC.rf {c : Hp} : sC c c := ⟨rfl, rfl⟩
theorem sM.rf {c : Hp} : sM c c := ⟨fun _ _ _ => rfl, fun _ _ => rfl, rfl⟩
theorem sC.fr {c h : Hp} (s : sC c h) : frC c h := ⟨fun q k _ => by rw [s.1], s.2⟩
theorem sM.fr {m h : Hp} (s : sM m h) : frM m h := ⟨fun q k n => s.1 q k (fun e => n (by unfold scrM; omega)), by rw [s.2.1 0 (by omega)], by rw [s.2.1 0 (by omega)]⟩
theorem sM.v {m h h' : Hp} (s : sM m h) (f : frV h h') {i : Nat} {v : Int64} : sM m (wJ h' 23 i v) := by
  refine ⟨fun q j n => ?_, fun q n => ?_, ?_⟩
  · rw [wJ_1]; exact (f.1 q j n).trans (s.1 q j n)
  · have : (wJ h' 23 i v).2.1 q = h'.2.1 q := by funext j; exact wJ_o (by omega)
    rw [this, f.2]; exact s.2.1 q n
  · rw [wJ_2, f.2]; exact s.2.2
theorem lnC_v {t : Nat} (h : t = 55 ∨ t = 78) : lnC (t + 14 + 5) = 64 := by rcases h with rfl | rfl <;> rfl
/-- names of a box, both sides -/
def envC (p : Nat) (y : Int32) (nm : Nat → Int64) (c : Hp) : Prop := ∀ k, k < 7 → f5_nameOf (nI (k + 1)) p y c = some (nm k)
theorem envC.s {p : Nat} {y : Int32} {nm : Nat → Int64} {c h : Hp} (e : envC p y nm c) (s : sC c h) : envC p y nm h := fun k hk => by
  rw [← e k hk]; unfold f5_nameOf; rw [s.1]
theorem nle0 {n : Nat} (h : n + 1 < 2 ^ 31) : ¬ nI (n + 1) ≤ (0 : Int32) := nI_nle (by omega) h
/-- one knot, no error so far -/
theorem law_step {S : Sp} {t p l d : Nat} {y : Int32} {nm : Nat → Int64} {c m h k : Hp} (w : wfLaws S) (hC : lawC S t c) (hM : lawM S m) (hl : l < 3) (hE : envC p y nm c) (hN : ∀ j, j < 7 → m.2.1 22 j = nm j) (hB : ∀ j, j < 7 → bnd (nm j)) (hd : d < S 43 l - S 42 l) (s1 : sC c h) (s2 : sM m k) (e0 : k.1 0 48 = 0) (st : stk (h.2.1 (t + 14 + 5)) (k.2.1 23) (S 42 l + d) (pst (S 40) (S 42 l) d)) : ∃ k', f12_lawOf_12_s (nI l) (nI (S 42 l + d)) k = some (.inl (nI (S 42 l + d + 1), k')) ∧ sM m k' ∧ ((∃ h', f5_worth_11_s (t + 14) (nI l) p y (nI (pst (S 40) (S 42 l) d).length) (nI (S 42 l + d)) h = some (.inl (nI (pst (S 40) (S 42 l) (d + 1)).length, nI (S 42 l + d + 1), h')) ∧ sC c h' ∧ k'.1 0 48 = 0 ∧ stk (h'.2.1 (t + 14 + 5)) (k'.2.1 23) (S 42 l + d + 1) (pst (S 40) (S 42 l) (d + 1))) ∨ (f5_worth_11_s (t + 14) (nI l) p y (nI (pst (S 40) (S 42 l) d).length) (nI (S 42 l + d)) h = some (.inr (-9223372036854775808, h)) ∧ k'.1 0 48 = 1)) := by
  obtain ⟨w3, wl⟩ := w
  obtain ⟨w1, w2, w4, w5⟩ := wl l hl
  have ws := w4 d hd
  have hlen := pst_len (K := S 40) (f := S 42 l) d
  have hin := fun a => pst_lt (K := S 40) (f := S 42 l) (d := d) (a := a)
  show ∃ k' : Hp, _ ∧ _ ∧ ((∃ h' : Hp, f5_worth_11_s (t + 14) (nI l) p y (nI (pst (S 40) (S 42 l) d).length) (nI (S 42 l + d)) h = some (.inl (nI (push1 (S 40) (pst (S 40) (S 42 l) d) (S 42 l + d)).length, nI (S 42 l + d + 1), h')) ∧ sC c h' ∧ k'.1 0 48 = 0 ∧ stk (h'.2.1 (t + 14 + 5)) (k'.2.1 23) (S 42 l + d + 1) (push1 (S 40) (pst (S 40) (S 42 l) d) (S 42 l + d))) ∨ _)
  generalize hst : pst (S 40) (S 42 l) d = L at *
  generalize hi : S 42 l + d = i at *
  have i64 : i < 64 := by omega
  have hui : i < S 43 l := by omega
  obtain ⟨ht, c1, c2⟩ := hC
  have hk1 := c1 i (by omega)
  have hk2 := hM.1 i (by omega)
  have hl2 := c2 l hl
  have hl3 := (hM.2 l hl).2 (by omega)
  have kk1 : h.1 (t + 14 + 1) i = nI (S 40 i) := by rw [s1.1]; exact hk1.1
  have kk2 : h.1 (t + 14 + 2) i = nI (S 41 i) := by rw [s1.1]; exact hk1.2
  have kk4 : h.1 (t + 14 + 4) l = nI (S 43 l) := by rw [s1.1]; exact hl2.2
  have m17 : k.1 17 i = nI (mk (S 40 i)) := (s2.1 _ _ (by omega)).trans hk2.1
  have m18 : k.1 18 i = nI (S 44 i) := (s2.1 _ _ (by omega)).trans hk2.2.1
  have m16 : k.1 16 l = nI (S 43 l) := (s2.1 _ _ (by omega)).trans hl3.2
  have mst : ∀ v k', f12_valueOf (nI i) k = some (v, k') → f12_lawOf_12_s (nI l) (nI i) k = some (.inl (nI (i + 1), wJ k' 23 i v)) := by
    intro v k' e
    simp only [f12_lawOf_12_s, gd, inb_t (show l < 6 by omega) (by omega), if_true, ix_nI (show l < 2 ^ 31 by omega), m16, nI_ge hui (show S 43 l < 2 ^ 31 by omega), if_false, e, Option.bind_some, inb_t i64 (by omega), ix_nI (show i < 2 ^ 31 by omega), lt, nI_1]
  have i3 := inb_t hl (show 3 < 2 ^ 31 by omega)
  have xl := ix_nI (show l < 2 ^ 31 by omega)
  have ng := nI_ge hui (show S 43 l < 2 ^ 31 by omega)
  have i64' := inb_t i64 (show 64 < 2 ^ 31 by omega)
  have xi := ix_nI (show i < 2 ^ 31 by omega)
  have iL := inb_t (show L.length < 64 by omega) (show 64 < 2 ^ 31 by omega)
  have xL := ix_nI (show L.length < 2 ^ 31 by omega)
  have hV := lnC_v ht
  have wr : ∀ (v : Int64) (k' : Hp), bnd v → frV k k' → k'.1 0 48 = 0 → sC c (wJ h (t + 14 + 5) L.length v) ∧ (wJ k' 23 i v).1 0 48 = 0 ∧ stk ((wJ h (t + 14 + 5) L.length v).2.1 (t + 14 + 5)) ((wJ k' 23 i v).2.1 23) (i + 1) (i :: L) := by
    intro v k' b f z
    refine ⟨⟨s1.1, s1.2⟩, z, ?_, ?_, by omega, stk_mono st (fun j hj => wJ_o (by omega)) (fun a ha => ?_) (by omega)⟩
    · rw [wJ_s, wJ_s]
    · rw [wJ_s]; exact b
    · rw [wJ_o (by omega), f.2]
  rcases ws with ⟨q7, q0, qn⟩ | ⟨q, T, hT⟩ | ⟨qb, T, hT⟩
  · have hp : push1 (S 40) L i = i :: L := by unfold push1; rw [if_pos q7]
    have n7 : ¬ (7 : Int32) < nI (S 40 i) := by rw [lit]; exact nI_nlt (by omega) (by omega)
    rw [hp]
    by_cases z : S 40 i = 0
    · have ev := value_0 i64 (by rw [m17, z]; rfl)
      rw [m18] at ev
      refine ⟨_, mst _ _ ev, s2.v frV.rf, Or.inl ⟨_, ?_, wr _ k (bndI _) frV.rf e0⟩⟩
      simp only [f5_worth_11_s, f5_worth_67, f5_worth_185, gd, i3, if_true, xl, kk4, ng, if_false, i64', xi, lt, kk1, z, show (nI 0 : Int32) = 0 from rfl, show ¬ (7 : Int32) < 0 from by decide, kk2, (q0 z).1, hV, iL, xL, nI_1, List.length_cons]
    · have e4 := qn (by omega)
      have ev := value_1 i64 (by rw [m17]; unfold mk; rw [if_neg z, if_pos q7]) m18 (show S 44 i < 7 by omega)
      rw [s2.2.1 22 (by omega), hN _ (by omega)] at ev
      refine ⟨_, mst _ _ ev, s2.v frV.rf, Or.inl ⟨_, ?_, wr _ k (hB _ (by omega)) frV.rf e0⟩⟩
      have en := (hE.s s1) (S 44 i) (by omega)
      rw [show S 44 i + 1 = S 40 i by omega] at en
      have nz : ¬ nI (S 40 i) = 0 := nI_ne0 (by omega) (by omega)
      simp only [f5_worth_11_s, f5_worth_67, f5_worth_185, gd, i3, if_true, xl, kk4, ng, if_false, i64', xi, lt, kk1, n7, nz, en, Option.bind_some, hV, iL, xL, nI_1, List.length_cons]
  · have hp : push1 (S 40) L i = i :: T := by unfold push1; rw [if_neg (by omega), if_pos q, hT]; rfl
    rw [hp]
    subst hT
    have hai := hin _ (List.mem_cons_self)
    have ev := value_2 i64 (by rw [m17, q]; rfl) m18 (show S 44 i < 64 by omega)
    obtain ⟨z1, z2, z3, z4⟩ := st
    have lt1 : T.length + 1 ≤ d := hlen
    have n7 : (7 : Int32) < nI 10 := by decide
    have bn : bnd (if k.2.1 23 (S 44 i) = 0 then 1 else 0) := by
      split
      · exact bnd1
      · exact bnd0
    refine ⟨_, mst _ _ ev, s2.v frV.rf, Or.inl ⟨wJ h (t + 14 + 5) T.length (if k.2.1 23 (S 44 i) = 0 then 1 else 0), ?_, ⟨s1.1, s1.2⟩, e0, ?_, ?_, by omega, stk_mono z4 (fun j hj => wJ_o (by omega)) (fun a ha => wJ_o (by omega)) (by omega)⟩⟩
    · simp only [f5_worth_11_s, f5_worth_113, f5_worth_185, gd, i3, if_true, xl, kk4, ng, if_false, i64', xi, lt, kk1, q, show (nI 10 : Int32) = 10 from rfl, show (7 : Int32) < 10 from by decide, List.length_cons, nle0 (show T.length + 1 < 2 ^ 31 by omega), nI_pred, inb_t (show T.length < 64 by omega) (show 64 < 2 ^ 31 by omega), ix_nI (show T.length < 2 ^ 31 by omega), lg_cmp_eq, z1, hV, nI_1]
      by_cases zz : k.2.1 23 (S 44 i) = 0
      · simp only [zz, if_true, truth1, Option.bind_some]
      · simp only [zz, if_false, truth0, Option.bind_some]
    · rw [wJ_s, wJ_s]
    · rw [wJ_s]; exact bn
  · have hnb : ¬ S 40 i ≤ 7 ∧ ¬ S 40 i = 10 := by unfold bin at qb; omega
    have h20 : S 40 i ≤ 20 := by unfold bin at qb; omega
    have hp : push1 (S 40) L i = i :: T := by unfold push1; rw [if_neg hnb.1, if_neg hnb.2, hT]; rfl
    rw [hp]
    subst hT
    have m19 : k.1 19 i = nI (S 45 i) := (s2.1 _ _ (by omega)).trans (hk2.2.2 qb)
    have hai := hin (S 44 i) (by simp)
    have hbi := hin (S 45 i) (by simp)
    obtain ⟨v, k', ev, ef, em, -⟩ := value_b i64 qb m17 m18 m19 (by omega) (by omega) (Or.inl e0)
    obtain ⟨em1, em2⟩ := em e0
    obtain ⟨z1, z2, z3, y1, y2, y3, z4⟩ := st
    have lt1 : T.length + 1 + 1 ≤ d := hlen
    have n7 : (7 : Int32) < nI (S 40 i) := by rw [lit]; exact nI_lt (by omega) (by omega)
    have n10 : ¬ nI (S 40 i) = 10 := by rw [lit, nI_eq (by omega) (by omega)]; exact hnb.2
    have n1 : ¬ nI (T.length + 1 + 1) ≤ (1 : Int32) := by rw [lit]; exact nI_ge (by omega) (by omega)
    obtain ⟨u, eu, hu⟩ := sign_eq (a := k.2.1 23 (S 44 i)) (b := k.2.1 23 (S 45 i)) qb y2 z2
    have cls : ∀ r, (if 0 < lg_cmp u 1000000000000 then some (Sum.inr (-9223372036854775808, h)) else if 0 ≤ lg_cmp u (-1000000000000) then some (Sum.inl (nI (T.length + 1), nI (i + 1), wJ h (t + 14 + 5) T.length u)) else some (Sum.inr (-9223372036854775808, h))) = r → f5_worth_11_s (t + 14) (nI l) p y (nI (S 45 i :: S 44 i :: T).length) (nI i) h = r := by
      intro r er
      rw [← er]
      simp only [f5_worth_11_s, f5_worth_120, f5_worth_185, gd, i3, if_true, xl, kk4, ng, if_false, i64', xi, lt, kk1, n7, n10, List.length_cons, n1, pk_m1, nI_pred, inb_t (show T.length < 64 by omega) (show 64 < 2 ^ 31 by omega), inb_t (show T.length + 1 < 64 by omega) (show 64 < 2 ^ 31 by omega), ix_nI (show T.length < 2 ^ 31 by omega), ix_nI (show T.length + 1 < 2 ^ 31 by omega), z1, show h.2.1 (t + 14 + 5) T.length = k.2.1 23 (S 44 i) from y1, show h.2.1 (t + 14 + 5) (T.length + 1) = k.2.1 23 (S 45 i) from z1, eu, Option.bind_some, nI_1]
    cases ho : sg (S 40 i) (k.2.1 23 (S 44 i)) (k.2.1 23 (S 45 i)) with
    | some r =>
      rw [ho] at hu
      obtain ⟨hu1, hu2⟩ := chk_bnd hu
      obtain ⟨ev1, ev2⟩ := em1 r ho
      subst ev1
      subst hu1
      have hu' := hu
      unfold chk at hu'
      refine ⟨_, mst _ _ ev, s2.v ef, Or.inl ⟨wJ h (t + 14 + 5) T.length v, cls _ ?_, ⟨s1.1, s1.2⟩, ev2, ?_, ?_, by omega, stk_mono z4 (fun j hj => wJ_o (by omega)) (fun a ha => by rw [wJ_o (by omega), ef.2]) (by omega)⟩⟩
      · simp only [lg_cmp_gt, lg_cmp_ge]
        rw [if_neg (by rw [Int64.lt_iff_toInt_lt, bT]; have := hu2.2; omega), if_pos (by rw [Int64.le_iff_toInt_le, bN']; exact hu2.1)]
        rfl
      · rw [wJ_s, wJ_s]
      · rw [wJ_s]; exact hu2
    | none =>
      rw [ho] at hu
      have ev2 := em2 ho
      refine ⟨_, mst _ _ ev, s2.v ef, Or.inr ⟨cls _ ?_, ev2⟩⟩
      simp only [lg_cmp_gt, lg_cmp_ge]
      rcases chk_none hu with q1 | q1
      · rw [if_pos q1]
      · rw [if_neg q1]
        split <;> rfl
/-- a knot behind an error -/
theorem law_err {S : Sp} {l d : Nat} {m k : Hp} (w : wfLaws S) (hM : lawM S m) (hl : l < 3) (hd : d < S 43 l - S 42 l) (s2 : sM m k) (e0 : k.1 0 48 = 1) : ∃ k', f12_lawOf_12_s (nI l) (nI (S 42 l + d)) k = some (.inl (nI (S 42 l + d + 1), k')) ∧ sM m k' ∧ k'.1 0 48 = 1 := by
  obtain ⟨w3, wl⟩ := w
  obtain ⟨w1, w2, w4, w5⟩ := wl l hl
  have ws := w4 d hd
  have hin := fun a => pst_lt (K := S 40) (f := S 42 l) (d := d) (a := a)
  generalize hst : pst (S 40) (S 42 l) d = L at *
  generalize hi : S 42 l + d = i at *
  have i64 : i < 64 := by omega
  have hui : i < S 43 l := by omega
  have hk2 := hM.1 i (by omega)
  have hl3 := (hM.2 l hl).2 (by omega)
  have m17 : k.1 17 i = nI (mk (S 40 i)) := (s2.1 _ _ (by omega)).trans hk2.1
  have m18 : k.1 18 i = nI (S 44 i) := (s2.1 _ _ (by omega)).trans hk2.2.1
  have m16 : k.1 16 l = nI (S 43 l) := (s2.1 _ _ (by omega)).trans hl3.2
  have mst : ∀ v k', f12_valueOf (nI i) k = some (v, k') → f12_lawOf_12_s (nI l) (nI i) k = some (.inl (nI (i + 1), wJ k' 23 i v)) := by
    intro v k' e
    simp only [f12_lawOf_12_s, gd, inb_t (show l < 6 by omega) (by omega), if_true, ix_nI (show l < 2 ^ 31 by omega), m16, nI_ge hui (show S 43 l < 2 ^ 31 by omega), if_false, e, Option.bind_some, inb_t i64 (by omega), ix_nI (show i < 2 ^ 31 by omega), lt, nI_1]
  rcases ws with ⟨q7, q0, qn⟩ | ⟨q, T, hT⟩ | ⟨qb, T, hT⟩
  · by_cases z : S 40 i = 0
    · exact ⟨_, mst _ _ (value_0 i64 (by rw [m17, z]; rfl)), s2.v frV.rf, e0⟩
    · have e4 := qn (by omega)
      exact ⟨_, mst _ _ (value_1 i64 (by rw [m17]; unfold mk; rw [if_neg z, if_pos q7]) m18 (show S 44 i < 7 by omega)), s2.v frV.rf, e0⟩
  · have hai := hin (S 44 i) (by rw [hT]; simp)
    exact ⟨_, mst _ _ (value_2 i64 (by rw [m17, q]; rfl) m18 (show S 44 i < 64 by omega)), s2.v frV.rf, e0⟩
  · have hai := hin (S 44 i) (by rw [hT]; simp)
    have hbi := hin (S 45 i) (by rw [hT]; simp)
    have m19 : k.1 19 i = nI (S 45 i) := (s2.1 _ _ (by omega)).trans (hk2.2.2 qb)
    obtain ⟨v, k', ev, ef, -, em⟩ := value_b i64 qb m17 m18 m19 (by omega) (by omega) (Or.inr e0)
    exact ⟨_, mst _ _ ev, s2.v ef, em e0⟩
theorem law_endM {S : Sp} {l : Nat} {m k : Hp} (w : wfLaws S) (hM : lawM S m) (hl : l < 3) (ht : S 42 l < S 43 l) (s2 : sM m k) : f12_lawOf_12_s (nI l) (nI (S 43 l)) k = some (.inr (if k.1 0 48 = 0 then k.2.1 23 (S 43 l - 1) else 0, k)) := by
  obtain ⟨w3, wl⟩ := w
  obtain ⟨w1, w2, w4, w5⟩ := wl l hl
  have hl3 := (hM.2 l hl).2 ht
  have m16 : k.1 16 l = nI (S 43 l) := (s2.1 _ _ (by omega)).trans hl3.2
  have e1 : (nI (S 43 l) - 1 : Int32) = nI (S 43 l - 1) := by rw [lit]; exact pk_sub (by omega)
  simp only [f12_lawOf_12_s, f12_lawOf_39, gd, inb_t (show l < 6 by omega) (by omega), if_true, ix_nI (show l < 2 ^ 31 by omega), m16, nI_le (Nat.le_refl (S 43 l)) (show S 43 l < 2 ^ 31 by omega), e1, inb_t (show S 43 l - 1 < 64 by omega) (by omega), ix_nI (show S 43 l - 1 < 2 ^ 31 by omega)]
  split <;> rfl
theorem law_errs {S : Sp} {l : Nat} {m : Hp} (w : wfLaws S) (hM : lawM S m) (hl : l < 3) (ht : S 42 l < S 43 l) : ∀ (n d : Nat) (k : Hp), d + n = S 43 l - S 42 l → sM m k → k.1 0 48 = 1 → ∃ k', lp (fun z : Int32 × Hp => f12_lawOf_12_s (nI l) z.1 z.2) (nI (S 42 l + d), k) = some (0, k') ∧ sM m k' ∧ k'.1 0 48 = 1
  | 0, d, k, h, s2, e0 => by
    refine ⟨k, ?_, s2, e0⟩
    refine lp_inr (o := some _) ?_
    rw [show S 42 l + d = S 43 l by omega]
    show f12_lawOf_12_s (nI l) (nI (S 43 l)) k = _
    rw [law_endM w hM hl ht s2, e0]; rfl
  | n + 1, d, k, h, s2, e0 => by
    obtain ⟨k', e, s, z⟩ := law_err w hM hl (show d < S 43 l - S 42 l by omega) s2 e0
    obtain ⟨k2, e2, s3, z2⟩ := law_errs w hM hl ht n (d + 1) k' (by omega) s z
    refine ⟨k2, ?_, s3, z2⟩
    exact (lp_inl (f := fun z : Int32 × Hp => f12_lawOf_12_s (nI l) z.1 z.2) (s := (nI (S 42 l + d), k)) (s' := (nI (S 42 l + d + 1), k')) e).trans e2
theorem pst_top {K : Nat → Nat} {f d : Nat} : ∃ t, pst K f (d + 1) = (f + d) :: t := by
  show ∃ t, push1 K (pst K f d) (f + d) = _
  unfold push1
  split
  · exact ⟨_, rfl⟩
  · split
    · exact ⟨_, rfl⟩
    · exact ⟨_, rfl⟩
theorem law_goes {S : Sp} {t p l : Nat} {y : Int32} {nm : Nat → Int64} {c m : Hp} (w : wfLaws S) (hC : lawC S t c) (hM : lawM S m) (hl : l < 3) (hE : envC p y nm c) (hN : ∀ j, j < 7 → m.2.1 22 j = nm j) (hB : ∀ j, j < 7 → bnd (nm j)) (ht : S 42 l < S 43 l) : ∀ (n d : Nat) (h k : Hp), d + n = S 43 l - S 42 l → sC c h → sM m k → k.1 0 48 = 0 → stk (h.2.1 (t + 14 + 5)) (k.2.1 23) (S 42 l + d) (pst (S 40) (S 42 l) d) → ∃ r h' r' k', lp (fun z : Int32 × Int32 × Hp => f5_worth_11_s (t + 14) (nI l) p y z.1 z.2.1 z.2.2) (nI (pst (S 40) (S 42 l) d).length, nI (S 42 l + d), h) = some (r, h') ∧ lp (fun z : Int32 × Hp => f12_lawOf_12_s (nI l) z.1 z.2) (nI (S 42 l + d), k) = some (r', k') ∧ sC c h' ∧ sM m k' ∧ ((k'.1 0 48 = 0 ∧ r' = r ∧ bnd r) ∨ (k'.1 0 48 = 1 ∧ r = -9223372036854775808))
  | 0, d, h, k, hd, s1, s2, e0, st => by
    obtain ⟨w3, wl⟩ := w
    obtain ⟨w1, w2, w4, w5⟩ := wl l hl
    have hlen := w5 ht
    rw [show S 43 l - S 42 l = d by omega] at hlen
    obtain ⟨d', rfl⟩ : ∃ d', d = d' + 1 := ⟨d - 1, by omega⟩
    obtain ⟨T, hT⟩ := pst_top (K := S 40) (f := S 42 l) (d := d')
    have hT0 : T = [] := by
      rw [hT] at hlen
      exact List.length_eq_zero_iff.mp (by simpa using hlen)
    subst hT0
    rw [hT] at st
    obtain ⟨z1, z2, z3, -⟩ := st
    have z1 : h.2.1 (t + 14 + 5) 0 = k.2.1 23 (S 42 l + d') := z1
    have kk4 : h.1 (t + 14 + 4) l = nI (S 43 l) := by rw [s1.1]; exact (hC.2.2 l hl).2
    refine ⟨k.2.1 23 (S 42 l + d'), h, k.2.1 23 (S 42 l + d'), k, ?_, ?_, s1, s2, Or.inl ⟨e0, rfl, z2⟩⟩
    · refine lp_inr (o := some _) ?_
      rw [hT, show S 42 l + (d' + 1) = S 43 l by omega]
      simp only [f5_worth_11_s, f5_worth_191, gd, inb_t hl (show 3 < 2 ^ 31 by omega), if_true, ix_nI (show l < 2 ^ 31 by omega), kk4, nI_le (Nat.le_refl (S 43 l)) (show S 43 l < 2 ^ 31 by omega), List.length_cons, List.length_nil, show (nI (0 + 1) : Int32) = 1 from rfl, show inb 0 64 = true from by decide, show ix 0 = 0 from by decide, z1, Option.map_some]
    · refine lp_inr (o := some _) ?_
      rw [show S 42 l + (d' + 1) = S 43 l by omega]
      show f12_lawOf_12_s (nI l) (nI (S 43 l)) k = _
      rw [law_endM ⟨w3, wl⟩ hM hl ht s2, if_pos e0, show S 43 l - 1 = S 42 l + d' by omega]
      rfl
  | n + 1, d, h, k, hd, s1, s2, e0, st => by
    obtain ⟨k', ek, sk, hh⟩ := law_step w hC hM hl hE hN hB (show d < S 43 l - S 42 l by omega) s1 s2 e0 st
    rcases hh with ⟨h', eh, sh, e0', st'⟩ | ⟨eh, e1⟩
    · obtain ⟨r, h2, r', k2, a1, a2, a3, a4, a5⟩ := law_goes w hC hM hl hE hN hB ht n (d + 1) h' k' (by omega) sh sk e0' st'
      refine ⟨r, h2, r', k2, ?_, ?_, a3, a4, a5⟩
      · exact (lp_inl (f := fun z : Int32 × Int32 × Hp => f5_worth_11_s (t + 14) (nI l) p y z.1 z.2.1 z.2.2) (s := (nI (pst (S 40) (S 42 l) d).length, nI (S 42 l + d), h)) (s' := (nI (pst (S 40) (S 42 l) (d + 1)).length, nI (S 42 l + d + 1), h')) eh).trans a1
      · exact (lp_inl (f := fun z : Int32 × Hp => f12_lawOf_12_s (nI l) z.1 z.2) (s := (nI (S 42 l + d), k)) (s' := (nI (S 42 l + d + 1), k')) ek).trans a2
    · obtain ⟨k2, b1, b2, b3⟩ := law_errs w hM hl ht n (d + 1) k' (by omega) sk e1
      refine ⟨_, h, 0, k2, ?_, ?_, s1, b2, Or.inr ⟨b3, rfl⟩⟩
      · exact lp_inr (f := fun z : Int32 × Int32 × Hp => f5_worth_11_s (t + 14) (nI l) p y z.1 z.2.1 z.2.2) (s := (nI (pst (S 40) (S 42 l) d).length, nI (S 42 l + d), h)) (o := some (-9223372036854775808, h)) eh
      · exact (lp_inl (f := fun z : Int32 × Hp => f12_lawOf_12_s (nI l) z.1 z.2) (s := (nI (S 42 l + d), k)) (s' := (nI (S 42 l + d + 1), k')) ek).trans b1
/-- what a law that was told is worth -/
theorem law_eval {S : Sp} {t p l : Nat} {y : Int32} {nm : Nat → Int64} {c m : Hp} (w : wfLaws S) (hC : lawC S t c) (hM : lawM S m) (hl : l < 3) (hE : envC p y nm c) (hN : ∀ j, j < 7 → m.2.1 22 j = nm j) (hB : ∀ j, j < 7 → bnd (nm j)) (ht : S 42 l < S 43 l) : ∃ r c' r' m', f5_worth (t + 14) (nI l) p y c = some (r, c') ∧ f12_lawOf (nI l) m = some (r', m') ∧ sC c c' ∧ sM m m' ∧ ((m'.1 0 48 = 0 ∧ r' = r ∧ bnd r) ∨ (m'.1 0 48 = 1 ∧ r = -9223372036854775808)) := by
  have hl3 := (hM.2 l hl).2 ht
  have s0 : sM m (wI m 0 48 0) := ⟨fun q j n => wI_o n, fun _ _ => rfl, rfl⟩
  obtain ⟨r, h', r', k', a1, a2, a3, a4, a5⟩ := law_goes w hC hM hl hE hN hB ht (S 43 l - S 42 l) 0 c (wI m 0 48 0) (by omega) sC.rf s0 wI_s trivial
  refine ⟨r, h', r', k', ?_, ?_, a3, a4, a5⟩
  · simp only [f5_worth, f5_worth_11, gd, inb_t hl (show 3 < 2 ^ 31 by omega), if_true, ix_nI (show l < 2 ^ 31 by omega), lt, (hC.2.2 l hl).1]
    exact a1
  · have e15 : (wI m 0 48 0).1 15 l = nI (S 42 l) := by rw [wI_o (by omega)]; exact hl3.1
    simp only [f12_lawOf, f12_lawOf_12, gd, inb_t (show l < 6 by omega) (show 6 < 2 ^ 31 by omega), if_true, ix_nI (show l < 2 ^ 31 by omega), lt, e15]
    exact a2
/-- a law that wasn't told -/
theorem law_no {S : Sp} {t p l : Nat} {y : Int32} {c : Hp} (w : wfLaws S) (hC : lawC S t c) (hl : l < 3) (ht : ¬ S 42 l < S 43 l) : f5_worth (t + 14) (nI l) p y c = some (-9223372036854775808, c) := by
  obtain ⟨w1, w2, w4, w5⟩ := w.2 l hl
  have w3 := w.1
  simp only [f5_worth, f5_worth_11, gd, inb_t hl (show 3 < 2 ^ 31 by omega), if_true, ix_nI (show l < 2 ^ 31 by omega), lt, (hC.2.2 l hl).1]
  refine lp_inr (o := some _) ?_
  simp only [f5_worth_11_s, f5_worth_191, gd, inb_t hl (show 3 < 2 ^ 31 by omega), if_true, ix_nI (show l < 2 ^ 31 by omega), (hC.2.2 l hl).2, nI_le (show S 43 l ≤ S 42 l by omega) (show S 42 l < 2 ^ 31 by omega), show ¬ ((0 : Int32) = 1) from by decide, if_false, Option.map_some]
