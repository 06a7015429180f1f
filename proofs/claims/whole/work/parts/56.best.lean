/-! winding: the best codes of both. -/
def pW (T x : Nat) : Bool := decide (x / 100 + x / 10 % 10 + x % 10 ≤ T)
noncomputable def fW (S : Sp) (K T x : Nat) : Nat := ga S K T 0 (x / 100) + ga S K T 1 (x / 10 % 10) + ga S K T 2 (x % 10)
theorem fW_le {S : Sp} {K T x : Nat} (w0 : wfNow S) (hK : K ≤ 20) : fW S K T x ≤ 2970000 := by
  have h1 := ga_le (T := T) (i := 0) (t := x / 100) w0 hK
  have h2 := ga_le (T := T) (i := 1) (t := x / 10 % 10) w0 hK
  have h3 := ga_le (T := T) (i := 2) (t := x % 10) w0 hK
  unfold fW
  omega
def wS (y : Nat) (h : Hp) : Prop := h.1 54 0 = nI (y / 100) ∧ h.1 54 1 = nI (y / 10 % 10) ∧ h.1 54 2 = nI (y % 10)
def WB (f : Nat → Nat) (o : Option Nat) (v : Int32) (h : Hp) : Prop := match o with
  | none => v = -1
  | some y => v = nI (f y) ∧ wS y h
def fr54 (c h : Hp) : Prop := (∀ q k, q ≠ 54 → h.1 q k = c.1 q k) ∧ h.2 = c.2
theorem fr54.rf {c : Hp} : fr54 c c := ⟨fun _ _ _ => rfl, rfl⟩
theorem fr54.w {c h : Hp} {k : Nat} {v : Int32} (f : fr54 c h) : fr54 c (wI h 54 k v) := ⟨fun q j n => (wI_o (by omega)).trans (f.1 q j n), f.2⟩
theorem fr54.fr {c h : Hp} (f : fr54 c h) : frC c h := ⟨fun q k n => f.1 q k (fun e => n (by unfold scrC; omega)), by rw [f.2]⟩
/-- one code of the class -/
theorem best_step {S : Sp} {K T a b k : Nat} {v : Int32} {c h : Hp} (w0 : wfNow S) (hK : K ≤ 20) (hT : T ≤ 9) (hs : a + b + k ≤ T) (hg : ∀ i u, i < 3 → u < 10 → c.1 53 (10 * i + u) = nI (ga S K T i u)) (f : fr54 c h) (hw : WB (fW S K T) (bst (pW T) (fW S K T) (100 * a + 10 * b + k)) v h) : ∃ v' h', f11_windBest_23_s (nI T) v (nI a) (nI b) (nI k) h = some (.inl (v', nI (k + 1), h')) ∧ fr54 c h' ∧ WB (fW S K T) (bst (pW T) (fW S K T) (100 * a + 10 * b + k + 1)) v' h' := by
  have d1 : (100 * a + 10 * b + k) / 100 = a := by omega
  have d2 : (100 * a + 10 * b + k) / 10 % 10 = b := by rw [show (100 * a + 10 * b + k) / 10 = 10 * a + b by omega]; omega
  have d3 : (100 * a + 10 * b + k) % 10 = k := by omega
  have hp : pW T (100 * a + 10 * b + k) = true := by unfold pW; rw [d1, d2, d3]; exact decide_eq_true hs
  have hb := fW_le (T := T) (x := 100 * a + 10 * b + k) w0 hK
  have ef : fW S K T (100 * a + 10 * b + k) = ga S K T 0 a + ga S K T 1 b + ga S K T 2 k := by unfold fW; rw [d1, d2, d3]
  have v1 : h.1 53 a = nI (ga S K T 0 a) := by
    have := hg 0 a (by omega) (by omega)
    rw [show 10 * 0 + a = a by omega] at this
    rw [f.1 _ _ (by omega)]; exact this
  have v2 : h.1 53 (10 + b) = nI (ga S K T 1 b) := by rw [f.1 _ _ (by omega)]; exact hg 1 b (by omega) (by omega)
  have v3 : h.1 53 (20 + k) = nI (ga S K T 2 k) := by rw [f.1 _ _ (by omega)]; exact hg 2 k (by omega) (by omega)
  have t1 : (10 + nI b : Int32) = nI (10 + b) := by rw [lit, nI_add]
  have t2 : (20 + nI k : Int32) = nI (20 + k) := by rw [lit, nI_add]
  have z : ¬ nI T < nI (a + b + k) := nI_nlt hs (by omega)
  have c3 : inb 0 3 = true ∧ inb 1 3 = true ∧ inb 2 3 = true ∧ ix 0 = 0 ∧ ix 1 = 1 ∧ ix 2 = 2 := by decide
  have e : f11_windBest_23_s (nI T) v (nI a) (nI b) (nI k) h = if nI (fW S K T (100 * a + 10 * b + k)) ≤ v then some (.inl (v, nI (k + 1), h)) else some (.inl (nI (fW S K T (100 * a + 10 * b + k)), nI (k + 1), wI (wI (wI h 54 0 (nI a)) 54 1 (nI b)) 54 2 (nI k))) := by
    simp only [f11_windBest_23_s, f11_windBest_96, z, if_false, gd, inb_t (show a < 30 by omega) (by omega), t1, inb_t (show 10 + b < 30 by omega) (by omega), t2, inb_t (show 20 + k < 30 by omega) (by omega), if_true, ix_nI (show a < 2 ^ 31 by omega), ix_nI (show 10 + b < 2 ^ 31 by omega), ix_nI (show 20 + k < 2 ^ 31 by omega), lt, v1, v2, v3, nI_add, c3, nI_1, ← ef]
  have fin : fr54 c (wI (wI (wI h 54 0 (nI a)) 54 1 (nI b)) 54 2 (nI k)) ∧ wS (100 * a + 10 * b + k) (wI (wI (wI h 54 0 (nI a)) 54 1 (nI b)) 54 2 (nI k)) := by
    refine ⟨f.w.w.w, ?_, ?_, ?_⟩
    · rw [d1, wI_o (by omega), wI_o (by omega), wI_s]
    · rw [d2, wI_o (by omega), wI_s]
    · rw [d3, wI_s]
  have eb : bst (pW T) (fW S K T) (100 * a + 10 * b + k + 1) = (match bst (pW T) (fW S K T) (100 * a + 10 * b + k) with | none => some (100 * a + 10 * b + k) | some y => if fW S K T y < fW S K T (100 * a + 10 * b + k) then some (100 * a + 10 * b + k) else some y) := by
    show (if pW T (100 * a + 10 * b + k) then _ else bst (pW T) (fW S K T) (100 * a + 10 * b + k)) = _
    rw [hp]; rfl
  rw [e, eb]
  cases ho : bst (pW T) (fW S K T) (100 * a + 10 * b + k) with
  | none =>
    rw [ho] at hw
    have hw : v = -1 := hw
    subst hw
    have q : ¬ nI (fW S K T (100 * a + 10 * b + k)) ≤ (-1 : Int32) := by
      rw [Int32.le_iff_toInt_le, nI_toInt (by omega), show ((-1 : Int32)).toInt = -1 from by decide]; omega
    rw [if_neg q]
    exact ⟨_, _, rfl, fin.1, rfl, fin.2⟩
  | some y =>
    rw [ho] at hw
    obtain ⟨hv, hy⟩ := hw
    subst hv
    have hb2 := fW_le (T := T) (x := y) w0 hK
    dsimp only
    by_cases q : fW S K T y < fW S K T (100 * a + 10 * b + k)
    · rw [if_neg (nI_ge q (by omega)), if_pos q]
      exact ⟨_, _, rfl, fin.1, rfl, fin.2⟩
    · rw [if_pos (nI_le (by omega) (by omega)), if_neg q]
      exact ⟨_, _, rfl, f, rfl, hy⟩
theorem best_3 {S : Sp} {K T a b : Nat} {v : Int32} {c h : Hp} (w0 : wfNow S) (hK : K ≤ 20) (hT : T ≤ 9) (hs : a + b ≤ T) (hg : ∀ i u, i < 3 → u < 10 → c.1 53 (10 * i + u) = nI (ga S K T i u)) (f : fr54 c h) (hw : WB (fW S K T) (bst (pW T) (fW S K T) (100 * a + 10 * b)) v h) : ∃ v' h', f11_windBest_23 (nI T) v (nI a) (nI b) 0 h = some (.inl (v', nI (b + 1), h')) ∧ fr54 c h' ∧ WB (fW S K T) (bst (pW T) (fW S K T) (100 * a + 10 * (b + 1))) v' h' := by
  unfold f11_windBest_23
  obtain ⟨⟨v1, x, h1⟩, e, i1, i2, i3⟩ := lp_walk (f := fun z : Int32 × Int32 × Hp => f11_windBest_23_s (nI T) z.1 (nI a) (nI b) z.2.1 z.2.2) (fun k z => z.2.1 = nI k ∧ fr54 c z.2.2 ∧ WB (fW S K T) (bst (pW T) (fW S K T) (100 * a + 10 * b + k)) z.1 z.2.2) (T - a - b + 1) (v, 0, h) ⟨rfl, f, hw⟩ (fun k z hk hI => by
    obtain ⟨v1, x, h1⟩ := z
    dsimp only at hI
    obtain ⟨rfl, i2, i3⟩ := hI
    obtain ⟨v', h', e, a1, a2⟩ := best_step w0 hK hT (show a + b + k ≤ T by omega) hg i2 i3
    exact ⟨(v', nI (k + 1), h'), e, rfl, a1, a2⟩)
  dsimp only at i1 i2 i3
  subst i1
  have sk := bst_skip (p := pW T) (f := fW S K T) (a := 100 * a + 10 * b + (T - a - b + 1)) (10 - (T - a - b + 1)) (fun x h1 h2 => by
    unfold pW
    apply decide_eq_false
    have e1 : x / 10 = 10 * a + b := by omega
    have e2 : x / 10 % 10 = b := by rw [e1]; omega
    have e3 : x / 100 = a := by omega
    omega)
  rw [show 100 * a + 10 * b + (T - a - b + 1) + (10 - (T - a - b + 1)) = 100 * a + 10 * (b + 1) by omega] at sk
  refine ⟨v1, h1, ?_, i2, by rw [sk]; exact i3⟩
  rw [e]
  refine lp_inr (o := some _) ?_
  have z : nI T < nI a + nI b + nI (T - a - b + 1) := by rw [nI_add, nI_add]; exact nI_lt (by omega) (by omega)
  simp only [f11_windBest_23_s, f11_windBest_102, z, if_true, Option.map_some, nI_1]
theorem best_2 {S : Sp} {K T a : Nat} {v : Int32} {c h : Hp} (w0 : wfNow S) (hK : K ≤ 20) (hT : T ≤ 9) (hs : a ≤ T) (hg : ∀ i u, i < 3 → u < 10 → c.1 53 (10 * i + u) = nI (ga S K T i u)) (f : fr54 c h) (hw : WB (fW S K T) (bst (pW T) (fW S K T) (100 * a)) v h) : ∃ v' h', f11_windBest_12 (nI T) v (nI a) 0 h = some (.inl (v', nI (a + 1), h')) ∧ fr54 c h' ∧ WB (fW S K T) (bst (pW T) (fW S K T) (100 * (a + 1))) v' h' := by
  unfold f11_windBest_12
  obtain ⟨⟨v1, x, h1⟩, e, i1, i2, i3⟩ := lp_walk (f := fun z : Int32 × Int32 × Hp => f11_windBest_12_s (nI T) z.1 (nI a) z.2.1 z.2.2) (fun k z => z.2.1 = nI k ∧ fr54 c z.2.2 ∧ WB (fW S K T) (bst (pW T) (fW S K T) (100 * a + 10 * k)) z.1 z.2.2) (T - a + 1) (v, 0, h) ⟨rfl, f, hw⟩ (fun k z hk hI => by
    obtain ⟨v1, x, h1⟩ := z
    dsimp only at hI
    obtain ⟨rfl, i2, i3⟩ := hI
    obtain ⟨v', h', e, a1, a2⟩ := best_3 w0 hK hT (show a + k ≤ T by omega) hg i2 i3
    refine ⟨(v', nI (k + 1), h'), ?_, rfl, a1, a2⟩
    have z : ¬ nI T < nI a + nI k := by rw [nI_add]; exact nI_nlt (by omega) (by omega)
    simp only [f11_windBest_12_s, z, if_false, e])
  dsimp only at i1 i2 i3
  subst i1
  have sk := bst_skip (p := pW T) (f := fW S K T) (a := 100 * a + 10 * (T - a + 1)) (10 * (10 - (T - a + 1))) (fun x h1 h2 => by unfold pW; apply decide_eq_false; omega)
  rw [show 100 * a + 10 * (T - a + 1) + 10 * (10 - (T - a + 1)) = 100 * (a + 1) by omega] at sk
  refine ⟨v1, h1, ?_, i2, by rw [sk]; exact i3⟩
  rw [e]
  refine lp_inr (o := some _) ?_
  have z : nI T < nI a + nI (T - a + 1) := by rw [nI_add]; exact nI_lt (by omega) (by omega)
  simp only [f11_windBest_12_s, f11_windBest_108, z, if_true, Option.map_some, nI_1]
theorem best_1 {S : Sp} {K T : Nat} {c : Hp} (w0 : wfNow S) (hK : K ≤ 20) (hT : T ≤ 9) (hg : ∀ i u, i < 3 → u < 10 → c.1 53 (10 * i + u) = nI (ga S K T i u)) : ∃ v' h', f11_windBest (nI T) c = some (v', h') ∧ fr54 c h' ∧ WB (fW S K T) (bst (pW T) (fW S K T) 1000) v' h' := by
  unfold f11_windBest f11_windBest_4
  obtain ⟨⟨v1, x, h1⟩, e, i1, i2, i3⟩ := lp_walk (f := fun z : Int32 × Int32 × Hp => f11_windBest_4_s (nI T) z.1 z.2.1 z.2.2) (fun k z => z.2.1 = nI k ∧ fr54 c z.2.2 ∧ WB (fW S K T) (bst (pW T) (fW S K T) (100 * k)) z.1 z.2.2) (T + 1) (-1, 0, c) ⟨rfl, fr54.rf, rfl⟩ (fun k z hk hI => by
    obtain ⟨v1, x, h1⟩ := z
    dsimp only at hI
    obtain ⟨rfl, i2, i3⟩ := hI
    obtain ⟨v', h', e, a1, a2⟩ := best_2 w0 hK hT (show k ≤ T by omega) hg i2 i3
    refine ⟨(v', nI (k + 1), h'), ?_, rfl, a1, a2⟩
    have z : ¬ nI T < nI k := nI_nlt (by omega) (by omega)
    simp only [f11_windBest_4_s, z, if_false, e])
  dsimp only at i1 i2 i3
  subst i1
  have sk := bst_skip (p := pW T) (f := fW S K T) (a := 100 * (T + 1)) (1000 - 100 * (T + 1)) (fun x h1 h2 => by unfold pW; apply decide_eq_false; omega)
  rw [show 100 * (T + 1) + (1000 - 100 * (T + 1)) = 1000 by omega] at sk
  refine ⟨v1, h1, ?_, i2, by rw [sk]; exact i3⟩
  rw [e]
  refine lp_inr (o := some _) ?_
  have z : nI T < nI (T + 1) := nI_lt (by omega) (by omega)
  simp only [f11_windBest_4_s, z, if_true, Option.map_some]
/-- boxes behind the third -/
noncomputable def rW (S : Sp) (K k : Nat) : Nat := smN (fun b => if b < 3 then 0 else gW S K b 0) k
theorem rW_3 {S : Sp} {K : Nat} : ∀ {k : Nat}, k ≤ 3 → rW S K k = 0
  | 0, _ => rfl
  | k + 1, h => by
    show rW S K k + (if k < 3 then 0 else gW S K k 0) = 0
    rw [rW_3 (show k ≤ 3 by omega), if_pos (by omega)]
theorem restW {S : Sp} {t K a : Nat} {c m : Hp} (w0 : wfNow S) (w1 : wfTold S) (w : wfLaws S) (hC : nowC S c) (hT : toldC S t c) (hL : lawC S t c) (lM : lawM S m) (hK : K ≤ 20) : ∃ c', f11_winding_78 (nI K) (nI a) 3 c = some (nI (a + rW S K (S 0 0)), c') ∧ frC c c' := by
  have hn := w0.1
  unfold f11_winding_78
  obtain ⟨⟨v1, x, h1⟩, e, i1, i2, i3⟩ := lp_walk (f := fun z : Int32 × Int32 × Hp => f11_winding_78_s (nI K) z.1 z.2.1 z.2.2) (fun k z => z.1 = nI (a + rW S K (3 + k)) ∧ z.2.1 = nI (3 + k) ∧ fr51 c z.2.2) (S 0 0 - 3) (nI a, 3, c) ⟨by rw [rW_3 (Nat.le_refl 3)]; rfl, rfl, fr51.rf⟩ (fun k z hk hI => by
    obtain ⟨v1, x, h⟩ := z
    dsimp only at hI
    obtain ⟨rfl, rfl, f⟩ := hI
    have hi : 3 + k < S 0 0 := by omega
    have C1 := hC.fr w0 f.fr
    obtain ⟨c2, e4, f4, x4, l4⟩ := trial_ex w0 C1 hi
    have F := (f.tr f4).fr
    have T4 := hT.fr hn F
    obtain ⟨c3, e5, f5⟩ := laugh_ex (K := K) (d := d50 S) w0 w (hC.fr w0 F) T4 (hL.f F) lM (show S 0 4 + K ≤ 12000 by have := w0.2.1; omega) (wf_bx w0 hi) x4 l4
    have eg : gnB S (d50 S) (psS S (3 + k)) (bxS S (3 + k)) K = gW S K (3 + k) 0 := by
      unfold gW
      rw [wd_0 (wf_bx w0 hi).2.1]
    rw [eg] at e5
    refine ⟨(nI (a + rW S K (3 + (k + 1))), nI (3 + (k + 1)), c3), ?_, rfl, rfl, (f.tr f4).tr f5⟩
    have er : rW S K (3 + (k + 1)) = rW S K (3 + k) + gW S K (3 + k) 0 := by
      show rW S K (3 + k) + (if 3 + k < 3 then 0 else gW S K (3 + k) 0) = _
      rw [if_neg (by omega)]
    rw [er, ← Nat.add_assoc, ← Nat.add_assoc]
    simp only [f11_winding_78_s, C1.1, nI_ge hi (show S 0 0 < 2 ^ 31 by omega), if_false, gd, inb_t (show 3 + k < 6 by omega) (by omega), if_true, ix_nI (show 3 + k < 2 ^ 31 by omega), e4, Option.bind_some, isDampGoes_eq w1 T4, e5, lt, nI_add, nI_1])
  dsimp only at i1 i2 i3
  subst i1 i2
  refine ⟨h1, ?_, i3.fr⟩
  have er : rW S K (3 + (S 0 0 - 3)) = rW S K (S 0 0) := by
    by_cases q : 3 ≤ S 0 0
    · rw [show 3 + (S 0 0 - 3) = S 0 0 by omega]
    · rw [rW_3 (show 3 + (S 0 0 - 3) ≤ 3 by omega), rW_3 (show S 0 0 ≤ 3 by omega)]
  rw [e, ← er]
  refine lp_inr (o := some _) ?_
  simp only [f11_winding_78_s, (hC.fr w0 i3.fr).1, nI_le (show S 0 0 ≤ 3 + (S 0 0 - 3) by omega) (show 3 + (S 0 0 - 3) < 2 ^ 31 by omega), if_true, Option.map_some]
