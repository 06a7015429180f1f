/-! Reading a text: what waits and what is held while a law is read. -/
def rk (k : Nat) : Nat := if k = 21 then 0 else if k < 11 then k - 7 else if k < 17 then 4 else if k < 19 then 5 else 6
def wm (k : Nat) : Nat := if k = 21 then 0 else mk k
theorem rkC : ∀ k, k < 21 → 8 ≤ k → f4_rank (nI k) = some (nI (rk k)) := by decide +kernel
theorem rkM : ∀ k, k < 22 → 8 ≤ k → f12_rank (nI (wm k)) = some (nI (rk k)) := by decide +kernel
theorem rk_le : ∀ k, k < 22 → 8 ≤ k → rk k ≤ 6 ∧ (¬ k = 21 → 1 ≤ rk k) := by decide
theorem wm_2 : ∀ k, k < 22 → 8 ≤ k → (nI (wm k) = 2 ↔ k = 10) := by decide
theorem bin_k : ∀ k, k < 21 → 8 ≤ k → ¬ k = 10 → bin k := fun k h1 h2 h3 => by unfold bin; omega
def o21 : List Nat → Nat
  | [] => 0
  | a :: r => (if a = 21 then 1 else 0) + o21 r
def nbk : List Nat → Nat
  | [] => 0
  | a :: r => (if a = 21 then 0 else 1) + nbk r
def nbi : List Nat → Nat
  | [] => 0
  | a :: r => (if a = 21 ∨ a = 10 then 0 else 1) + nbi r
theorem on_len : ∀ st : List Nat, o21 st + nbk st = st.length
  | [] => rfl
  | a :: r => by
    have := on_len r
    unfold o21 nbk
    rw [List.length_cons]
    by_cases q : a = 21
    · rw [if_pos q, if_pos q]; omega
    · rw [if_neg q, if_neg q]; omega
/-- a stack in a row of cells, the top first -/
def SK (g : Nat → Int32) (w : Nat → Nat) : List Nat → Prop
  | [] => True
  | a :: r => g r.length = nI (w a) ∧ SK g w r
theorem SK.fr {g g' : Nat → Int32} {w : Nat → Nat} : ∀ {st : List Nat}, SK g w st → (∀ i, i < st.length → g' i = g i) → SK g' w st
  | [], _, _ => trivial
  | a :: r, h, e => ⟨(e r.length (by rw [List.length_cons]; omega)).trans h.1, SK.fr h.2 (fun i hi => e i (by rw [List.length_cons]; omega))⟩
section LAWS2
variable {T : Nat → Nat} {E t : Nat} {c0 m0 : Hp} {D D2 : Sp} {p s x a l f : Nat} {c m : Hp} {st H : List Nat} {wn may : Nat}
/-- what waits and what is held, on both sides -/
def CO (T : Nat → Nat) (E t : Nat) (c0 m0 : Hp) (l f : Nat) (D : Sp) (st H : List Nat) (wn may p s x a : Nat) (c m : Hp) : Prop := RB T E t c0 m0 D D p s x a c (fx D l m) ∧ c.2.2 4 2 = some (t + 14) ∧ (f ≤ D 0 3 ∧ l < 3 ∧ H = pst (D 40) f (D 0 3 - f) ∧ ∀ d, d < D 0 3 - f → lawStep D (pst (D 40) f d) (f + d)) ∧ (c.1 4 3 = nI st.length ∧ c.1 4 5 = nI (o21 st) ∧ c.1 4 7 = nI wn ∧ c.1 4 8 = nI may) ∧ (m.1 0 40 = nI st.length ∧ m.1 0 41 = nI H.length ∧ m.1 0 42 = nI (o21 st) ∧ m.1 0 44 = nI wn ∧ m.1 0 45 = nI may) ∧ (SK (c.1 5) id st ∧ SK (m.1 20) wm st ∧ SK (m.1 21) id H) ∧ (D 0 3 + nbk st ≤ 64 ∧ o21 st ≤ 8 ∧ wn ≤ 1 ∧ may ≤ 1) ∧ ∀ k, k ∈ st → 8 ≤ k ∧ k < 22
theorem kd5 (ht : t = 55 ∨ t = 78) : decide (kdC (t + 14) = 5) = true := by
  rcases ht with rfl | rfl <;> decide
theorem put_eq {K : Nat} {u v : Int32} (h5 : c.1 (t + 14) 5 = nI K) (hK : K < 64) : f5_put (t + 14) u v c = some (cP t K u v c) := by
  have g : ¬ (64 : Int32) ≤ nI K := by rw [lit]; exact nI_ge hK (by omega)
  have e1 : (wI c (t + 14 + 1) K u).1 (t + 14) 5 = nI K := (wI_o (by omega)).trans h5
  have e2 : (wI (wI c (t + 14 + 1) K u) (t + 14 + 2) K v).1 (t + 14) 5 = nI K := (wI_o (by omega)).trans e1
  unfold cP
  simp only [f5_put, h5, g, if_false, gd, inb_t hK (by omega), ix_nI (show K < 2 ^ 31 by omega), if_true, lt, e1, e2, nI_1]
theorem grown_eq {K hl : Nat} {u v w : Int32} (h20 : m.1 0 20 = nI K) (h41 : m.1 0 41 = nI hl) (hK : K < 64) (hh : hl < 96) : f12_grown u v w m = some (mP K hl u v w m) := by
  have z : (64 + nI K : Int32) = nI (64 + K) := by rw [lit, nI_add]
  have e1 : (wI m 17 (64 + K) u).1 0 20 = nI K := (wI_o (by omega)).trans h20
  have e2 : (wI (wI m 17 (64 + K) u) 18 (64 + K) v).1 0 20 = nI K := (wI_o (by omega)).trans e1
  have e3 : (wI (wI (wI m 17 (64 + K) u) 18 (64 + K) v) 19 (64 + K) w).1 0 20 = nI K := (wI_o (by omega)).trans e2
  have e3' : (wI (wI (wI m 17 (64 + K) u) 18 (64 + K) v) 19 (64 + K) w).1 0 41 = nI hl := by rw [wI_o (by omega), wI_o (by omega), wI_o (by omega)]; exact h41
  have e4 : (wI (wI (wI (wI m 17 (64 + K) u) 18 (64 + K) v) 19 (64 + K) w) 21 hl (nI K)).1 0 41 = nI hl := (wI_o (by omega)).trans e3'
  have e5 : (wI (wI (wI (wI (wI m 17 (64 + K) u) 18 (64 + K) v) 19 (64 + K) w) 21 hl (nI K)) 0 41 (nI (hl + 1))).1 0 20 = nI K := by rw [wI_o (by omega), wI_o (by omega)]; exact e3
  unfold mP
  simp only [f12_grown, h20, z, gd, inb_t (show 64 + K < 128 by omega) (by omega), ix_nI (show 64 + K < 2 ^ 31 by omega), if_true, lt, e1, e2, e3, e3', inb_t hh (by omega), ix_nI (show hl < 2 ^ 31 by omega), e4, e5, nI_1]
theorem nI_sub1 {n : Nat} : (nI (n + 1) - 1 : Int32) = nI n := by
  rw [← nI_1]; exact Int32.add_sub_cancel _ _
theorem drop_eq {hl : Nat} (h41 : m.1 0 41 = nI (hl + 1)) (hh : hl < 96) : f12_dropHeld m = some (m.1 21 hl, wI m 0 41 (nI hl)) := by
  have e1 : (wI m 0 41 (nI hl)).1 21 hl = m.1 21 hl := wI_o (by omega)
  simp only [f12_dropHeld, h41, nI_sub1, lt, wI_s, gd, inb_t hh (by omega), ix_nI (show hl < 2 ^ 31 by omega), if_true, e1]
theorem CO.grow {c1 m1 : Hp} {k v u w wn' may' : Nat} {vb : Int32} {st' H1 : List Nat} (h : CO T E t c0 m0 l f D st H wn may p s x a c m) (fc : ∀ q k, ¬ q = 4 → ¬ q = 5 → c1.1 q k = c.1 q k) (fr : c1.2.2 = c.2.2) (fm : ∀ q k, ¬ (q = 0 ∧ 40 ≤ k ∧ k ≤ 45) → ¬ q = 20 → ¬ q = 21 → m1.1 q k = m.1 q k) (f2 : m1.2 = m.2) (hb : bin k → vb = nI w) (v1 : c1.1 4 3 = nI st'.length ∧ c1.1 4 5 = nI (o21 st') ∧ c1.1 4 7 = nI wn' ∧ c1.1 4 8 = nI may') (v2 : m1.1 0 40 = nI st'.length ∧ m1.1 0 42 = nI (o21 st') ∧ m1.1 0 44 = nI wn' ∧ m1.1 0 45 = nI may') (s1 : SK (c1.1 5) id st') (s2 : SK (m1.1 20) wm st') (s3 : SK (m1.1 21) id H1) (b : D 0 3 + 1 + nbk st' ≤ 64 ∧ o21 st' ≤ 8 ∧ wn' ≤ 1 ∧ may' ≤ 1) (hk : ∀ k, k ∈ st' → 8 ≤ k ∧ k < 22) (ls : lawStep (addK D k v u w) H (D 0 3)) (hp : push1 (addK D k v u w 40) H (D 0 3) = D 0 3 :: H1) : CO T E t c0 m0 l f (addK D k v u w) st' (D 0 3 :: H1) wn' may' p s x a (cP t (D 0 3) (nI k) (nI v) c1) (mP (D 0 3) H1.length (nI (mk k)) (nI u) vb m1) := by
  obtain ⟨h1, h2, ⟨hf, hl, hH, hs⟩, -, -, -, -, -⟩ := h
  have ht := h1.2.2.1.2
  have h1' : RB T E t c0 m0 D D p s x a c1 (fx D l m1) := h1.same fc (fun q k _ => by rw [fr]) fm f2
  have k1 := h1'.grow (k := k) (v := v) (u := u) (w := w) (hl := H1.length) (vb := vb) (by omega) hl hb
  obtain ⟨e3, e40, e41, e44, e45⟩ := addK_n (D := D) (k := k) (v := v) (a := u) (b := w)
  have eo : ∀ i j, ¬ (i = 0 ∧ j = 3) → ¬ ((i = 40 ∨ i = 41 ∨ i = 44 ∨ i = 45) ∧ j = D 0 3) → addK D k v u w i j = D i j := fun i j h1 h2 => addK_o h1 h2
  generalize addK D k v u w = D' at k1 e3 e40 e41 e44 e45 eo ls hp
  have ep : ∀ d, d ≤ D 0 3 - f → pst (D' 40) f d = pst (D 40) f d := fun d hd => pst_c d (fun i hi => eo _ _ (by omega) (by omega))
  have oC : ∀ q j, q ≤ 5 → (cP t (D 0 3) (nI k) (nI v) c1).1 q j = c1.1 q j := fun q j hq => cP_o (by omega) (by omega)
  have oM : ∀ q j, q ≤ 20 → ¬ (17 ≤ q ∧ q ≤ 19) → ¬ (q = 0 ∧ (j = 41 ∨ j = 20)) → (mP (D 0 3) H1.length (nI (mk k)) (nI u) vb m1).1 q j = m1.1 q j := fun q j h1 h2 h3 => mP_o (by omega) (by omega) h3
  have e21 : ∀ j, j < H1.length → (mP (D 0 3) H1.length (nI (mk k)) (nI u) vb m1).1 21 j = m1.1 21 j := fun j hj => mP_o (by omega) (by omega) (by omega)
  refine ⟨k1, by show c1.2.2 4 2 = some (t + 14); rw [fr]; exact h2, ⟨by omega, hl, ?_, fun d hd => ?_⟩, ⟨?_, ?_, ?_, ?_⟩, ⟨?_, ?_, ?_, ?_, ?_⟩, ⟨?_, ?_, ?_⟩, ⟨by omega, b.2⟩, hk⟩
  · rw [e3, show D 0 3 + 1 - f = (D 0 3 - f) + 1 by omega]
    show D 0 3 :: H1 = push1 (D' 40) (pst (D' 40) f (D 0 3 - f)) (f + (D 0 3 - f))
    rw [ep _ (Nat.le_refl _), ← hH, show f + (D 0 3 - f) = D 0 3 by omega, hp]
  · rw [e3] at hd
    rw [ep d (by omega)]
    by_cases z : d = D 0 3 - f
    · rw [z, ← hH, show f + (D 0 3 - f) = D 0 3 by omega]; exact ls
    · exact (hs d (by omega)).cg (fun a _ _ => eo _ _ (by omega) (by omega))
  · rw [oC _ _ (by omega)]; exact v1.1
  · rw [oC _ _ (by omega)]; exact v1.2.1
  · rw [oC _ _ (by omega)]; exact v1.2.2.1
  · rw [oC _ _ (by omega)]; exact v1.2.2.2
  · rw [oM _ _ (by omega) (by omega) (by omega)]; exact v2.1
  · rw [List.length_cons]; unfold mP; rw [wI_o (by omega), wI_s]
  · rw [oM _ _ (by omega) (by omega) (by omega)]; exact v2.2.1
  · rw [oM _ _ (by omega) (by omega) (by omega)]; exact v2.2.2.1
  · rw [oM _ _ (by omega) (by omega) (by omega)]; exact v2.2.2.2
  · exact s1.fr (fun i _ => oC _ _ (by omega))
  · exact s2.fr (fun i _ => oM _ _ (by omega) (by omega) (by omega))
  · refine ⟨?_, s3.fr (fun i hi => e21 i hi)⟩
    unfold mP
    rw [wI_o (by omega), wI_o (by omega), wI_s]; rfl
theorem one_pop {k R R' : Nat} {r : List Nat} (h : CO T E t c0 m0 l f D (k :: r) H wn may p s x a c m) (hH : H.length = nbi (k :: r) + 1) (h21 : ¬ k = 21) (hR : R ≤ rk k) (hR' : R' ≤ rk k) : ∃ D' H' c' m', f4_putAbove_0_s (nI R) c = some (.inl c') ∧ f12_bind_0_s (nI R') m = some (.inl m') ∧ CO T E t c0 m0 l f D' r H' wn may p s x a c' m' ∧ H'.length = nbi r + 1 ∧ D' 0 3 + nbk r = D 0 3 + nbk (k :: r) ∧ c'.1 4 4 = c.1 4 4 ∧ c'.1 4 6 = c.1 4 6 ∧ m'.1 0 43 = m.1 0 43 ∧ ∀ q j, q = 14 ∨ q = 15 → m'.1 q j = m.1 q j := by
  have hh := h
  obtain ⟨h1, h2, ⟨hf, hl, hP, hs⟩, ⟨c1, c2, c3, c4⟩, ⟨m1, m2, m3, m4, m5⟩, ⟨s1, s2, s3⟩, b, hk⟩ := h
  have ht := h1.2.2.1.2
  have hkd := kd5 ht
  obtain ⟨k8, k22⟩ := hk k (List.mem_cons_self ..)
  obtain ⟨rk6, -⟩ := rk_le k k22 k8
  have hlen := on_len (k :: r)
  have hlr : r.length + 1 = (k :: r).length := (List.length_cons ..).symm
  have b1 := b.1
  have b2 := b.2.1
  have nk : nbk (k :: r) = 1 + nbk r := by show (if k = 21 then 0 else 1) + nbk r = _; rw [if_neg h21]
  have no : o21 (k :: r) = o21 r := by show (if k = 21 then 1 else 0) + o21 r = _; rw [if_neg h21, Nat.zero_add]
  have v5 : c.1 (t + 14) 5 = nI (D 0 3) := h1.2.2.2.1.1.2.2.2.2.2.2.2.2
  have v20 : m.1 0 20 = nI (D 0 3) := by rw [← fx_o (D := D) (l := l) (m := m) (q := 0) (k := 20) (by omega) (by omega)]; exact h1.2.2.2.2.1.1.2.2.2.2.1
  have c1' : c.1 4 3 = nI (r.length + 1) := by rw [c1, hlr]
  have m1' : m.1 0 40 = nI (r.length + 1) := by rw [m1, hlr]
  have t5 : c.1 5 r.length = nI k := s1.1
  have t20 : m.1 20 r.length = nI (wm k) := s2.1
  have g0 : ¬ nI (r.length + 1) ≤ 0 := by rw [show (0 : Int32) = nI 0 from rfl]; exact nI_ge (by omega) (by omega)
  have n21 : ¬ nI k = 21 := by rw [show (21 : Int32) = nI 21 from rfl, nI_eq (by omega) (by omega)]; exact h21
  have l1 : ¬ nI (rk k) < nI R := nI_nlt hR (by omega)
  have l2 : ¬ nI (rk k) < nI R' := nI_nlt hR' (by omega)
  have u5 : (wI c 4 3 (nI r.length)).1 (t + 14) 5 = nI (D 0 3) := (wI_o (by omega)).trans v5
  have u55 : (wI c 4 3 (nI r.length)).1 5 r.length = nI k := (wI_o (by omega)).trans t5
  have eC : f4_putAbove_0_s (nI R) c = some (.inl (cP t (D 0 3) (nI k) (nI 0) (wI c 4 3 (nI r.length)))) := by
    simp only [f4_putAbove_0_s, c1', g0, if_false, nI_sub1, gd, inb_t (show r.length < 72 by omega) (by omega), ix_nI (show r.length < 2 ^ 31 by omega), if_true, t5, n21, rkC k (by omega) k8, Option.bind_some, l1, lt, wI_r, h2, hkd, wI_s, u55]
    rw [show (0 : Int32) = nI 0 from rfl, put_eq u5 (by omega)]
    rfl
  have hw : wm k = mk k := by unfold wm; rw [if_neg h21]
  have um20 : (wI m 0 40 (nI r.length)).1 20 r.length = nI (mk k) := by rw [wI_o (by omega), t20, hw]
  have hkr : ∀ k', k' ∈ r → 8 ≤ k' ∧ k' < 22 := fun k' z => hk k' (List.mem_cons_of_mem _ z)
  have Hl : ∀ {a : Nat} {L : List Nat}, (a :: L).length = L.length + 1 := fun {a L} => List.length_cons ..
  have hlH : H.length ≤ 65 := by
    rw [hH]
    have : ∀ st : List Nat, nbi st ≤ nbk st := by
      intro st
      induction st with
      | nil => exact Nat.le_refl _
      | cons a q ih =>
        show (if a = 21 ∨ a = 10 then 0 else 1) + nbi q ≤ (if a = 21 then 0 else 1) + nbk q
        by_cases z : a = 21
        · rw [if_pos (Or.inl z), if_pos z]; omega
        · rw [if_neg z]
          by_cases z2 : a = 21 ∨ a = 10
          · rw [if_pos z2]; omega
          · rw [if_neg z2]; omega
    have := this (k :: r)
    omega
  by_cases k10 : k = 10
  · have nb : nbi (k :: r) = nbi r := by show (if k = 21 ∨ k = 10 then 0 else 1) + nbi r = _; rw [if_pos (Or.inr k10), Nat.zero_add]
    cases H with
    | nil => exact absurd hH (by rw [List.length_nil]; omega)
    | cons h1' H1 =>
      have hH' : H1.length = nbi r := by rw [Hl, nb] at hH; omega
      rw [Hl] at hlH
      have m2' : (wI m 0 40 (nI r.length)).1 0 41 = nI (H1.length + 1) := by rw [wI_o (by omega), m2, Hl]
      have t21 : (wI m 0 40 (nI r.length)).1 21 H1.length = nI h1' := by rw [wI_o (by omega)]; exact s3.1
      have ed := drop_eq m2' (by omega)
      rw [t21] at ed
      have w10 : nI (mk k) = 2 := by rw [k10]; decide
      have ew : (wI (wI m 0 40 (nI r.length)) 0 41 (nI H1.length)).1 0 20 = nI (D 0 3) := by rw [wI_o (by omega), wI_o (by omega)]; exact v20
      have eg := grown_eq (u := nI (mk k)) (v := nI h1') (w := -1) ew wI_s (show D 0 3 < 64 by omega) (show H1.length < 96 by omega)
      refine ⟨addK D k 0 h1' 0, D 0 3 :: H1, cP t (D 0 3) (nI k) (nI 0) (wI c 4 3 (nI r.length)), mP (D 0 3) H1.length (nI (mk k)) (nI h1') (-1) (wI (wI m 0 40 (nI r.length)) 0 41 (nI H1.length)), eC, ?_, ?_, by rw [Hl, hH'], ?_, ?_, ?_, ?_, fun q j hq => ?_⟩
      · simp only [f12_bind_0_s, m1', g0, if_false, nI_sub1, gd, inb_t (show r.length < 96 by omega) (by omega), ix_nI (show r.length < 2 ^ 31 by omega), if_true, t20, rkM k k22 k8, Option.bind_some, l2, lt, wI_s, um20]
        rw [if_pos w10]
        simp only [f12_bind_58, ed, Option.bind_some, eg]
      · refine hh.grow (H1 := H1) (fun q k n _ => wI_o (by omega)) rfl (fun q k n _ _ => (wI_o (by omega)).trans (wI_o (by omega))) rfl (fun hb => by unfold bin at hb; omega) ⟨wI_s, by rw [wI_o (by omega), c2, no], by rw [wI_o (by omega)]; exact c3, by rw [wI_o (by omega)]; exact c4⟩ ⟨by rw [wI_o (by omega), wI_s], by rw [wI_o (by omega), wI_o (by omega), m3, no], by rw [wI_o (by omega), wI_o (by omega)]; exact m4, by rw [wI_o (by omega), wI_o (by omega)]; exact m5⟩ (s1.2.fr (fun i _ => wI_o (by omega))) (s2.2.fr (fun i _ => (wI_o (by omega)).trans (wI_o (by omega)))) (s3.2.fr (fun i _ => (wI_o (by omega)).trans (wI_o (by omega)))) ⟨by omega, by omega, b.2.2⟩ hkr ?_ ?_
        · refine Or.inr (Or.inl ⟨?_, H1, ?_⟩)
          · rw [addK_n.2.1]; exact k10
          · rw [addK_n.2.2.2.1]
        · unfold push1
          rw [addK_n.2.1, if_neg (by omega), if_pos k10]; rfl
      · rw [addK_n.1]; omega
      · rw [cP_o (by omega) (by omega), wI_o (by omega)]
      · rw [cP_o (by omega) (by omega), wI_o (by omega)]
      · rw [mP_o (by omega) (by omega) (by omega), wI_o (by omega), wI_o (by omega)]
      · rw [mP_o (by omega) (by omega) (by omega), wI_o (by omega), wI_o (by omega)]
  · have nb : nbi (k :: r) = 1 + nbi r := by show (if k = 21 ∨ k = 10 then 0 else 1) + nbi r = _; rw [if_neg (by omega)]
    cases H with
    | nil => exact absurd hH (by rw [List.length_nil]; omega)
    | cons h1' HH =>
      cases HH with
      | nil => exact absurd hH (by rw [Hl, List.length_nil]; omega)
      | cons h2' H2 =>
        have hH' : H2.length = nbi r := by rw [Hl, Hl, nb] at hH; omega
        rw [Hl, Hl] at hlH
        have m2' : (wI m 0 40 (nI r.length)).1 0 41 = nI (H2.length + 1 + 1) := by rw [wI_o (by omega), m2, Hl, Hl]
        have t21 : (wI m 0 40 (nI r.length)).1 21 (H2.length + 1) = nI h1' := by rw [wI_o (by omega)]; exact s3.1
        have ed := drop_eq m2' (by omega)
        rw [t21] at ed
        have t22 : (wI (wI m 0 40 (nI r.length)) 0 41 (nI (H2.length + 1))).1 21 H2.length = nI h2' := by rw [wI_o (by omega), wI_o (by omega)]; exact s3.2.1
        have ed2 := drop_eq (m := wI (wI m 0 40 (nI r.length)) 0 41 (nI (H2.length + 1))) (hl := H2.length) wI_s (by omega)
        rw [t22] at ed2
        have w10 : ¬ nI (mk k) = 2 := by rw [← hw, wm_2 k k22 k8]; exact k10
        have ew : (wI (wI (wI m 0 40 (nI r.length)) 0 41 (nI (H2.length + 1))) 0 41 (nI H2.length)).1 0 20 = nI (D 0 3) := by rw [wI_o (by omega), wI_o (by omega), wI_o (by omega)]; exact v20
        have eg := grown_eq (u := nI (mk k)) (v := nI h2') (w := nI h1') ew wI_s (show D 0 3 < 64 by omega) (show H2.length < 96 by omega)
        have hbn := bin_k k (by omega) k8 k10
        refine ⟨addK D k 0 h2' h1', D 0 3 :: H2, cP t (D 0 3) (nI k) (nI 0) (wI c 4 3 (nI r.length)), mP (D 0 3) H2.length (nI (mk k)) (nI h2') (nI h1') (wI (wI (wI m 0 40 (nI r.length)) 0 41 (nI (H2.length + 1))) 0 41 (nI H2.length)), eC, ?_, ?_, by rw [Hl, hH'], ?_, ?_, ?_, ?_, fun q j hq => ?_⟩
        · simp only [f12_bind_0_s, m1', g0, if_false, nI_sub1, gd, inb_t (show r.length < 96 by omega) (by omega), ix_nI (show r.length < 2 ^ 31 by omega), if_true, t20, rkM k k22 k8, Option.bind_some, l2, lt, wI_s, um20]
          rw [if_neg w10]
          simp only [f12_bind_58, ed, ed2, Option.bind_some, eg]
        · refine hh.grow (H1 := H2) (fun q k n _ => wI_o (by omega)) rfl (fun q k n _ _ => (wI_o (by omega)).trans ((wI_o (by omega)).trans (wI_o (by omega)))) rfl (fun _ => rfl) ⟨wI_s, by rw [wI_o (by omega), c2, no], by rw [wI_o (by omega)]; exact c3, by rw [wI_o (by omega)]; exact c4⟩ ⟨by rw [wI_o (by omega), wI_o (by omega), wI_s], by rw [wI_o (by omega), wI_o (by omega), wI_o (by omega), m3, no], by rw [wI_o (by omega), wI_o (by omega), wI_o (by omega)]; exact m4, by rw [wI_o (by omega), wI_o (by omega), wI_o (by omega)]; exact m5⟩ (s1.2.fr (fun i _ => wI_o (by omega))) (s2.2.fr (fun i _ => (wI_o (by omega)).trans ((wI_o (by omega)).trans (wI_o (by omega))))) (s3.2.2.fr (fun i _ => (wI_o (by omega)).trans ((wI_o (by omega)).trans (wI_o (by omega))))) ⟨by omega, by omega, b.2.2⟩ hkr ?_ ?_
          · refine Or.inr (Or.inr ⟨?_, H2, ?_⟩)
            · rw [addK_n.2.1]; exact hbn
            · rw [addK_n.2.2.2.1, addK_n.2.2.2.2]
          · unfold push1
            rw [addK_n.2.1, if_neg (by omega), if_neg k10]; rfl
        · rw [addK_n.1]; omega
        · rw [cP_o (by omega) (by omega), wI_o (by omega)]
        · rw [cP_o (by omega) (by omega), wI_o (by omega)]
        · rw [mP_o (by omega) (by omega) (by omega), wI_o (by omega), wI_o (by omega), wI_o (by omega)]
        · rw [mP_o (by omega) (by omega) (by omega), wI_o (by omega), wI_o (by omega), wI_o (by omega)]
end LAWS2
