/-! tried: years tried otherwise. -/
def chB (j : Nat) (B : Bx) : Bx := fun x => if j = 1 ∧ x = 6 then 0 else if j = 3 ∧ x = 4 then 0 else if j = 4 ∧ x = 2 then 99 else B x
theorem chB_o {j x : Nat} {B : Bx} (h : ¬ (j = 1 ∧ x = 6)) (h2 : ¬ (j = 3 ∧ x = 4)) (h3 : ¬ (j = 4 ∧ x = 2)) : chB j B x = B x := by unfold chB; rw [if_neg h, if_neg h2, if_neg h3]
theorem wf_ch {Y j : Nat} {B P : Bx} (w : wfB Y B P) : wfB Y (chB j B) P := by
  obtain ⟨w1, w2, w3, w4, w6, w8, w9, wp⟩ := w
  refine ⟨?_, ?_, ?_, ?_, ?_, ?_, ?_, wp⟩
  · rw [chB_o (by omega) (by omega) (by omega)]; exact w1
  · by_cases q : j = 4
    · subst q; exact Nat.le_refl 99
    · rw [chB_o (by omega) (by omega) (by omega)]; exact w2
  · rw [chB_o (by omega) (by omega) (by omega)]; exact w3
  · by_cases q : j = 3
    · subst q; exact (by decide : 0 < 1024)
    · rw [chB_o (by omega) (by omega) (by omega)]; exact w4
  · by_cases q : j = 1
    · subst q; exact Nat.zero_le 1
    · rw [chB_o (by omega) (by omega) (by omega)]; exact w6
  · rw [chB_o (by omega) (by omega) (by omega)]; exact w8
  · rw [chB_o (by omega) (by omega) (by omega)]; exact w9
theorem bxC.w {B B' P : Bx} {c : Hp} {k : Nat} {v : Int32} (h : bxC B P 51 c) (e1 : B' 1 = B 1) (e2 : k = 5 → v = nI (B' 2)) (e2' : k ≠ 5 → B' 2 = B 2) (e3 : B' 3 = B 3) (e8 : B' 8 = B 8) (e4 : k = 9 → v = nI (B' 4)) (e4' : k ≠ 9 → B' 4 = B 4) (e6 : k = 10 → v = nI (B' 6)) (e6' : k ≠ 10 → B' 6 = B 6) (hk : k = 5 ∨ k = 9 ∨ k = 10) : bxC B' P 51 (wI c 51 k v) := by
  obtain ⟨h1, h2, h3, h5, h6, h7, h8, h9⟩ := h
  refine ⟨?_, ?_, ?_, ?_, ?_, ?_, ?_, fun j hj => ?_⟩
  · rw [wI_o (by omega), e1]; exact h1
  · rw [wI_o (by omega)]; exact h2
  · by_cases q : k = 5
    · subst q; rw [wI_s]; exact e2 rfl
    · rw [wI_o (by omega), e2' q]; exact h3
  · rw [wI_o (by omega), e3]; exact h5
  · rw [wI_o (by omega), e8]; exact h6
  · by_cases q : k = 9
    · subst q; rw [wI_s]; exact e4 rfl
    · rw [wI_o (by omega), e4' q]; exact h7
  · by_cases q : k = 10
    · subst q; rw [wI_s]; exact e6 rfl
    · rw [wI_o (by omega), e6' q]; exact h8
  · rw [wI_o (by omega)]; exact h9 j hj
theorem fr51.w {c : Hp} {k : Nat} {v : Int32} : fr51 c (wI c 51 k v) := ⟨fun q j n => wI_o (by omega), rfl⟩
theorem chTrial_ex {j : Nat} {B P : Bx} {c : Hp} (hj : j ≤ 4) (h : bxC B P 51 c) : ∃ c', f11_changeTrial (nI j) c = some c' ∧ bxC (chB j B) P 51 c' ∧ fr51 c c' ∧ c'.1 51 8 = c.1 51 8 := by
  have cs : j = 0 ∨ j = 1 ∨ j = 2 ∨ j = 3 ∨ j = 4 := by omega
  rcases cs with rfl | rfl | rfl | rfl | rfl
  · have e : chB 0 B = B := funext (fun x => chB_o (by omega) (by omega) (by omega))
    rw [e]
    exact ⟨c, rfl, h, fr51.rf, rfl⟩
  · refine ⟨wI c 51 10 0, rfl, h.w ?_ ?_ ?_ ?_ ?_ ?_ ?_ ?_ ?_ (by omega), fr51.w, wI_o (by omega)⟩
    · exact chB_o (by omega) (by omega) (by omega)
    · intro e; omega
    · intro _; exact chB_o (by omega) (by omega) (by omega)
    · exact chB_o (by omega) (by omega) (by omega)
    · exact chB_o (by omega) (by omega) (by omega)
    · intro e; omega
    · intro _; exact chB_o (by omega) (by omega) (by omega)
    · intro _; rfl
    · intro e; omega
  · have e : chB 2 B = B := funext (fun x => chB_o (by omega) (by omega) (by omega))
    rw [e]
    exact ⟨c, rfl, h, fr51.rf, rfl⟩
  · refine ⟨wI c 51 9 0, rfl, h.w ?_ ?_ ?_ ?_ ?_ ?_ ?_ ?_ ?_ (by omega), fr51.w, wI_o (by omega)⟩
    · exact chB_o (by omega) (by omega) (by omega)
    · intro e; omega
    · intro _; exact chB_o (by omega) (by omega) (by omega)
    · exact chB_o (by omega) (by omega) (by omega)
    · exact chB_o (by omega) (by omega) (by omega)
    · intro _; rfl
    · intro e; omega
    · intro e; omega
    · intro _; exact chB_o (by omega) (by omega) (by omega)
  · refine ⟨wI c 51 5 99, rfl, h.w ?_ ?_ ?_ ?_ ?_ ?_ ?_ ?_ ?_ (by omega), fr51.w, wI_o (by omega)⟩
    · exact chB_o (by omega) (by omega) (by omega)
    · intro _; rfl
    · intro e; omega
    · exact chB_o (by omega) (by omega) (by omega)
    · exact chB_o (by omega) (by omega) (by omega)
    · intro e; omega
    · intro _; exact chB_o (by omega) (by omega) (by omega)
    · intro e; omega
    · intro _; exact chB_o (by omega) (by omega) (by omega)
def dT (S : Sp) (j : Nat) : Bool := !decide (j = 0) && d50 S
noncomputable def gT (S : Sp) (j K : Nat) (g : Option Nat) (b : Nat) : Nat := if g = some b then 0 else gnB S (dT S j) (psS S b) (chB j (bxS S b)) K
def whoT (S : Sp) (j : Nat) (x : Int32) (g : Option Nat) : Prop := (j = 2 ∧ ∃ i, i < S 0 0 ∧ x = nI i ∧ g = some i) ∨ (j ≠ 2 ∧ g = none)
theorem triedC {S : Sp} {t j K : Nat} {g : Option Nat} {x : Int32} {c m : Hp} (w0 : wfNow S) (w1 : wfTold S) (w : wfLaws S) (hC : nowC S c) (hT : toldC S t c) (hL : lawC S t c) (lM : lawM S m) (hj : j ≤ 4) (hK : K ≤ 99) (hg : whoT S j x g) : ∃ c', f11_tried_43 (nI j) x (nI K) c = some (nI (smN (gT S j K g) (S 0 0)), c') ∧ frC c c' := by
  have hn := w0.1
  unfold f11_tried_43 f11_tried_49
  obtain ⟨⟨a, b, c1⟩, e, i1, i2, i3⟩ := lp_walk (f := fun z : Int32 × Int32 × Hp => f11_tried_49_s (nI j) x (nI K) z.1 z.2.1 z.2.2) (fun i z => z.1 = nI (smN (gT S j K g) i) ∧ z.2.1 = nI i ∧ fr51 c z.2.2) (S 0 0) (0, 0, c) ⟨rfl, rfl, fr51.rf⟩ (fun i z hi hI => by
    obtain ⟨a, b, c1⟩ := z
    dsimp only at hI
    obtain ⟨rfl, rfl, f⟩ := hI
    have C1 := hC.fr w0 f.fr
    have ge : ¬ nI (S 0 0) ≤ nI i := nI_ge hi (by omega)
    have j2 : (nI j = (2 : Int32)) ↔ j = 2 := by rw [show (2 : Int32) = nI 2 from rfl]; exact nI_eq (by omega) (by omega)
    by_cases q : g = some i
    · rcases hg with ⟨hj2, i0, hi0, hx, hg⟩ | ⟨_, hg⟩
      case inr => rw [q] at hg; cases hg
      have : i0 = i := by rw [q] at hg; exact (Option.some.inj hg).symm
      subst this
      refine ⟨(nI (smN (gT S j K g) (i0 + 1)), nI (i0 + 1), c1), ?_, rfl, rfl, f⟩
      have eg : smN (gT S j K g) (i0 + 1) = smN (gT S j K g) i0 := by
        show smN (gT S j K g) i0 + gT S j K g i0 = _
        unfold gT
        rw [if_pos q, Nat.add_zero]
      rw [eg]
      simp only [f11_tried_49_s, f11_tried_120, C1.1, ge, if_false, j2.mpr hj2, if_true, hx, nI_1]
    · obtain ⟨c2, e4, f4, x4, l4⟩ := trial_ex w0 C1 hi
      obtain ⟨c3, e5, x5, f5, l5⟩ := chTrial_ex hj x4
      have f3 := (f.tr f4).tr f5
      have T3 := hT.fr hn f3.fr
      obtain ⟨c4, e6, f6⟩ := laugh_ex (K := K) (d := dT S j) w0 w (hC.fr w0 f3.fr) T3 (hL.f f3.fr) lM (show S 0 4 + K ≤ 12000 by have := w0.2.1; omega) (wf_ch (wf_bx w0 hi)) x5 (by rw [l5, l4, chB_o (by omega) (by omega) (by omega)]; rfl)
      have e72 : f11_tried_72 (nI j) x (nI K) (nI (smN (gT S j K g) i)) (nI i) c1 = some (.inl (nI (smN (gT S j K g) (i + 1)), nI (i + 1), c4)) := by
        have eg : smN (gT S j K g) (i + 1) = smN (gT S j K g) i + gnB S (dT S j) (psS S i) (chB j (bxS S i)) K := by
          show smN (gT S j K g) i + gT S j K g i = _
          unfold gT
          rw [if_neg q]
        rw [eg, ← nI_add]
        have j0 : (nI j = (0 : Int32)) ↔ j = 0 := by rw [show (0 : Int32) = nI 0 from rfl]; exact nI_eq (by omega) (by omega)
        simp only [f11_tried_72, f11_tried_113, gd, inb_t (show i < 6 by omega) (by omega), if_true, ix_nI (show i < 2 ^ 31 by omega), e4, e5, Option.bind_some, j0, isDampGoes_eq w1 T3]
        have e114 : ∀ v : Int32, v = bI (dT S j) → f11_tried_114 (nI j) x (nI K) (nI i) v (nI K) (nI (smN (gT S j K g) i)) c3 = some (.inl (nI (smN (gT S j K g) i) + nI (gnB S (dT S j) (psS S i) (chB j (bxS S i)) K), nI (i + 1), c4)) := by
          intro v hv
          subst hv
          simp only [f11_tried_114, f11_tried_120, e6, Option.bind_some, lt, nI_1]
        by_cases q0 : j = 0
        · rw [if_pos q0]
          exact e114 0 (by unfold dT; rw [decide_eq_true q0]; rfl)
        · rw [if_neg q0]
          have ed : dT S j = d50 S := by unfold dT; rw [decide_eq_false q0]; rfl
          rw [ed] at e114 ⊢
          cases hd : d50 S with
          | false => rw [hd] at e114; exact e114 0 rfl
          | true => rw [hd] at e114; exact e114 1 rfl
      refine ⟨(nI (smN (gT S j K g) (i + 1)), nI (i + 1), c4), ?_, rfl, rfl, f3.tr f6⟩
      simp only [f11_tried_49_s, C1.1, ge, if_false, j2]
      rcases hg with ⟨hj2, i0, hi0, hx, hg⟩ | ⟨hj2, hg⟩
      · have hne : ¬ nI i = x := by
          rw [hx, nI_eq (by omega) (by omega)]
          intro z; exact q (by rw [hg, z])
        rw [if_pos hj2, if_neg hne]; exact e72
      · rw [if_neg hj2]; exact e72)
  dsimp only at i1 i2 i3
  subst i1 i2
  refine ⟨c1, ?_, i3.fr⟩
  rw [e]
  refine lp_inr (o := some _) ?_
  simp only [f11_tried_49_s, (hC.fr w0 i3.fr).1, nI_le (Nat.le_refl (S 0 0)) (show S 0 0 < 2 ^ 31 by omega), if_true, Option.map_some]
theorem laughsAll_eq {s n : Nat} {F : Nat → Nat} {m : Hp} (hs : s ≤ 1) (hn : n ≤ 6) (h12 : m.1 0 12 = nI n) (h : ∀ b, b < n → m.1 27 (6 * s + b) = nI (F b)) : f12_laughsAll (nI s) m = some (nI (smN F n)) := by
  unfold f12_laughsAll f12_laughsAll_4
  refine lp_for1 (f := fun z : Int32 × Int32 => f12_laughsAll_4_s (nI s) z.1 z.2 m) (fun b => (nI (smN F b), nI b)) n (fun b hb => ?_) ?_
  · simp only [f12_laughsAll_4_s, h12, nI_ge hb (show n < 2 ^ 31 by omega), if_false, gd, six_m, inb_t (show 6 * s + b < 12 by omega) (by omega), if_true, ix_nI (show 6 * s + b < 2 ^ 31 by omega), h b hb, lt, nI_add, nI_1, smN]
  · simp only [f12_laughsAll_4_s, h12, nI_le (Nat.le_refl n) (show n < 2 ^ 31 by omega), if_true]
theorem triedM {S : Sp} {t j K : Nat} {g : Option Nat} {x : Int32} {c m : Hp} (w0 : wfNow S) (w1 : wfTold S) (w : wfLaws S) (hM : nowM S m) (hU : toldM S m) (hL : lawC S t c) (lM : lawM S m) (hz : bzM m) (hj : j ≤ 4) (hK : K ≤ 99) (hg : whoT S j x g) : ∃ m', f12_tried_46 (nI j) x (nI K) m = some (nI (smN (gT S j K g) (S 0 0)), m') ∧ frM m m' := by
  have hn := w0.1
  have gl : ∀ i, g = some i → i < 6 := by
    intro i hi
    rcases hg with ⟨_, i0, hi0, _, hg⟩ | ⟨_, hg⟩
    · rw [hg] at hi; have := Option.some.inj hi; omega
    · rw [hg] at hi; cases hi
  obtain ⟨h1, e1, o1, o2, cx, hb, h30, p60, p61⟩ := laidN_ex w0 hM hU lM hz (fun _ _ _ => rfl)
  obtain ⟨m5, e5⟩ : ∃ m5, m5 = wI (wI (wI (wI h1 0 59 (bI (decide (j = 0)))) 0 60 (bI (decide (j = 1)))) 0 62 (eI g)) 0 61 (bI (decide (j = 3))) := ⟨_, rfl⟩
  have o5 : ∀ q k, ¬ (q = 0 ∧ 59 ≤ k ∧ k ≤ 62) → m5.1 q k = h1.1 q k := fun q k n => by rw [e5, wI_o (by omega), wI_o (by omega), wI_o (by omega), wI_o (by omega)]
  have v59 : m5.1 0 59 = bI (decide (j = 0)) := by rw [e5, wI_o (by omega), wI_o (by omega), wI_o (by omega), wI_s]
  have v60 : m5.1 0 60 = bI (decide (j = 1)) := by rw [e5, wI_o (by omega), wI_o (by omega), wI_s]
  have v61 : m5.1 0 61 = bI (decide (j = 3)) := by rw [e5, wI_s]
  have v62 : m5.1 0 62 = eI g := by rw [e5, wI_o (by omega), wI_s]
  have o52 : m5.2 = m.2 := by rw [e5]; exact o2
  have s1 : f12_tried_46 (nI j) x (nI K) m = f12_tried_108 (nI j) (nI K) 0 m5 := by
    have cs : j = 0 ∨ j = 1 ∨ j = 2 ∨ j = 3 ∨ j = 4 := by omega
    rw [e5]
    rcases cs with rfl | rfl | rfl | rfl | rfl
    · rcases hg with ⟨h, _⟩ | ⟨_, hg⟩
      · omega
      · subst hg
        simp only [f12_tried_46, e1, Option.bind_some, f12_tried_60, f12_tried_74, f12_tried_88, f12_tried_102, gd, bz0, bz1, lt, show ((nI 0 : Int32) = 0) = True from by decide, show ((nI 0 : Int32) = 1) = False from by decide, show ((nI 0 : Int32) = 2) = False from by decide, show ((nI 0 : Int32) = 3) = False from by decide, if_true, if_false, bI, decide_true, eI]
        rfl
    · rcases hg with ⟨h, _⟩ | ⟨_, hg⟩
      · omega
      · subst hg
        simp only [f12_tried_46, e1, Option.bind_some, f12_tried_60, f12_tried_74, f12_tried_88, f12_tried_102, gd, bz0, bz1, lt, show ((nI 1 : Int32) = 0) = False from by decide, show ((nI 1 : Int32) = 1) = True from by decide, show ((nI 1 : Int32) = 2) = False from by decide, show ((nI 1 : Int32) = 3) = False from by decide, if_true, if_false, bI, decide_true, eI]
        rfl
    · rcases hg with ⟨_, i0, hi0, hx, hg⟩ | ⟨h, _⟩
      · subst hg hx
        simp only [f12_tried_46, e1, Option.bind_some, f12_tried_60, f12_tried_74, f12_tried_88, f12_tried_102, gd, bz0, bz1, lt, show ((nI 2 : Int32) = 0) = False from by decide, show ((nI 2 : Int32) = 1) = False from by decide, show ((nI 2 : Int32) = 2) = True from by decide, show ((nI 2 : Int32) = 3) = False from by decide, if_true, if_false, bI, decide_true, eI]
        rfl
      · omega
    · rcases hg with ⟨h, _⟩ | ⟨_, hg⟩
      · omega
      · subst hg
        simp only [f12_tried_46, e1, Option.bind_some, f12_tried_60, f12_tried_74, f12_tried_88, f12_tried_102, gd, bz0, bz1, lt, show ((nI 3 : Int32) = 0) = False from by decide, show ((nI 3 : Int32) = 1) = False from by decide, show ((nI 3 : Int32) = 2) = False from by decide, show ((nI 3 : Int32) = 3) = True from by decide, if_true, if_false, bI, decide_true, eI]
        rfl
    · rcases hg with ⟨h, _⟩ | ⟨_, hg⟩
      · omega
      · subst hg
        simp only [f12_tried_46, e1, Option.bind_some, f12_tried_60, f12_tried_74, f12_tried_88, f12_tried_102, gd, bz0, bz1, lt, show ((nI 4 : Int32) = 0) = False from by decide, show ((nI 4 : Int32) = 1) = False from by decide, show ((nI 4 : Int32) = 2) = False from by decide, show ((nI 4 : Int32) = 3) = False from by decide, if_true, if_false, bI, decide_true, eI]
        rfl
  have s2 : ∃ m6, f12_tried_108 (nI j) (nI K) 0 m5 = f12_tried_138 (nI K) m6 ∧ (∀ q k, ¬ (q = 24 ∧ 6 ≤ k) → m6.1 q k = m5.1 q k) ∧ m6.2 = m5.2 ∧ ∀ b, b < 6 → m6.1 24 (6 + b) = if j = 4 then 99 else m5.1 24 (6 + b) := by
    unfold f12_tried_108
    have j4 : (nI j = (4 : Int32)) ↔ j = 4 := by rw [show (4 : Int32) = nI 4 from rfl]; exact nI_eq (by omega) (by omega)
    by_cases q : j = 4
    · obtain ⟨⟨a, h⟩, e, i1, i2, i3, i4⟩ := lp_walk (f := fun z : Int32 × Hp => f12_tried_108_s (nI j) (nI K) z.1 z.2) (fun i z => z.1 = nI i ∧ (∀ q k, ¬ (q = 24 ∧ 6 ≤ k) → z.2.1 q k = m5.1 q k) ∧ z.2.2 = m5.2 ∧ ∀ b, b < i → z.2.1 24 (6 + b) = 99) 6 (0, m5) ⟨rfl, fun _ _ _ => rfl, rfl, fun b hb => by omega⟩ (fun i z hi hI => by
        obtain ⟨a, h⟩ := z
        dsimp only at hI
        obtain ⟨rfl, i2, i3, i4⟩ := hI
        refine ⟨(nI (i + 1), wI h 24 (6 + i) 99), ?_, rfl, fun q k n => (wI_o (by omega)).trans (i2 q k n), i3, fun b hb => ?_⟩
        · simp only [f12_tried_108_s, g6 hi, if_false, j4.mpr q, if_true, gd, six_i, inb_t (show 6 + i < 12 by omega) (by omega), ix_nI (show 6 + i < 2 ^ 31 by omega), lt, nI_1]
        · show (wI h 24 (6 + i) 99).1 24 (6 + b) = 99
          by_cases z : b = i
          · rw [z, wI_s]
          · rw [wI_o (by omega)]; exact i4 b (by omega))
      dsimp only at i1 i2 i3 i4
      subst i1
      refine ⟨h, ?_, i2, i3, fun b hb => by rw [if_pos q]; exact i4 b hb⟩
      rw [e]
      refine lp_inr ?_
      simp only [f12_tried_108_s, l6, if_true]
    · refine ⟨m5, ?_, fun _ _ _ => rfl, rfl, fun b hb => by rw [if_neg q]⟩
      refine lp_inr ?_
      simp only [f12_tried_108_s, j4, q, if_false, show ¬ ((6 : Int32) ≤ 0) from by decide]
  obtain ⟨m6, e6, o6, o62, k6⟩ := s2
  have w6 : ∀ q k, ¬ (q = 0 ∧ 59 ≤ k ∧ k ≤ 62) → ¬ (q = 24 ∧ 6 ≤ k) → m6.1 q k = h1.1 q k := fun q k a b => (o6 q k b).trans (o5 q k a)
  have cx6 : cxM S (S 0 0) (S 0 7) (decide (j = 0)) false g m6 := ⟨cx.1.o (fun q k _ _ => w6 q k (by omega) (by omega)), (w6 _ _ (by omega) (by omega)).trans cx.2.1, (o6 _ _ (by omega)).trans v62, (w6 _ _ (by omega) (by omega)).trans cx.2.2.2.1, (o6 _ _ (by omega)).trans v59, (w6 _ _ (by omega) (by omega)).trans cx.2.2.2.2.2⟩
  have b6 : ∀ b, b < S 0 0 → bxM (chB j (bxS S b)) (psS S b) 1 b m6 := by
    intro b hbn
    obtain ⟨y1, y2, y3, y4, y5, y6, y7, y8⟩ := hb b hbn
    rw [if_pos p60] at y6
    rw [if_pos p61] at y7
    refine ⟨?_, ?_, ?_, ?_, ?_, ?_, ?_, fun k hk => ?_⟩
    · rw [chB_o (by omega) (by omega) (by omega), w6 _ _ (by omega) (by omega)]; exact y1
    · have k := k6 b (by omega)
      show m6.1 24 (6 + b) = _
      rw [k]
      by_cases q : j = 4
      · rw [if_pos q, q]; rfl
      · rw [if_neg q, chB_o (by omega) (by omega) (by omega), o5 _ _ (by omega)]; exact y2
    · rw [chB_o (by omega) (by omega) (by omega), w6 _ _ (by omega) (by omega)]; exact y3
    · rw [chB_o (by omega) (by omega) (by omega), w6 _ _ (by omega) (by omega)]; exact y4
    · rw [chB_o (by omega) (by omega) (by omega), w6 _ _ (by omega) (by omega)]; exact y5
    · rw [o6 0 60 (by omega), v60]
      by_cases q : j = 1
      · rw [decide_eq_true q, if_neg (by decide), q]; rfl
      · rw [decide_eq_false q, if_pos (by rfl), chB_o (by omega) (by omega) (by omega), w6 _ _ (by omega) (by omega)]; exact y6
    · rw [o6 0 61 (by omega), v61]
      by_cases q : j = 3
      · rw [decide_eq_true q, if_neg (by decide), q]; rfl
      · rw [decide_eq_false q, if_pos (by rfl), chB_o (by omega) (by omega) (by omega), w6 _ _ (by omega) (by omega)]; exact y7
    · rw [w6 _ _ (by omega) (by omega)]; exact y8 k hk
  have h57 : m6.2.1 0 57 = lN (S 0 5) := by rw [o62, o52]; exact hM.2.2.1
  obtain ⟨m7, e7, t1, t2, t3, t4, t5⟩ := goMany_ex (t := t) (Y := S 0 4) (K := K) w hL cx6 hn gl w1.2.2.2.1 w0.2.2.1 (by have := w0.2.1; omega) (fun b hbn _ => wf_ch (wf_bx w0 hbn)) (fun b hbn _ => b6 b hbn) ((w6 _ _ (by omega) (by omega)).trans h30) h57
  obtain ⟨m8, e8, f8, -, -, -, -, -, pf, pj⟩ := plain_ex m7
  have fS : ∀ q k, ¬ scrM q k → m8.1 q k = m.1 q k := fun q k n => by
    rw [f8.1 q k n, t5.s q k n, w6 q k (fun e => n (by unfold scrM; omega)) (fun e => n (by unfold scrM; omega)), o1 q k n]
  have F : frM m m8 := by
    refine ⟨fS, ?_, ?_⟩
    · rw [f8.2.1, t4, nmS_as w1.2.2.2.1]; exact hM.2.2.1.symm
    · rw [f8.2.2, t5.2.1, o62, o52]
  have N8 := hM.fr w0 F
  have L0 : f12_laughsAll 0 m8 = some (nI (smN (S 9) (S 0 0))) := laughsAll_eq (s := 0) (by omega) hn N8.1 (fun b hbn => by
    rw [show 6 * 0 + b = b by omega]; exact (N8.2.2.2.2 b hbn).2.2.2.2.2.1)
  have L1 : f12_laughsAll 1 m8 = some (nI (smN (fun b => S 9 b + gT S j K g b) (S 0 0))) := laughsAll_eq (s := 1) (by omega) hn N8.1 (fun b hbn => by
    rw [pf _ _ (by omega)]
    unfold gT
    by_cases q : g = some b
    · rw [if_pos q, Nat.add_zero, t5.1 _ _ (by omega) (by omega) (fun _ _ b' hb' hne e => hne (by rw [q]; congr 1; omega)), w6 _ _ (by omega) (by omega)]
      exact (hb b hbn).2.2.2.2.1
    · rw [if_neg q]
      have h := (t1 b hbn q).2.2.2.2.1
      rw [dsS_as w1.2.2.2.1] at h
      rw [h]
      congr 1
      have k := yrs_9 (S := S) (y := S 0 4) (ds := fun _ => dT S j) (P := psS S b) (B := chB j (bxS S b)) K
      have k2 : chB j (bxS S b) 9 = S 9 b := chB_o (by omega) (by omega) (by omega)
      show yrs S (S 0 4) (fun _ => dT S j) (psS S b) (chB j (bxS S b)) K 9 = S 9 b + gnB S (dT S j) (psS S b) (chB j (bxS S b)) K
      unfold gnB
      rw [k2] at k ⊢
      omega)
  refine ⟨m8, ?_, F⟩
  rw [s1, e6]
  simp only [f12_tried_138, e7, e8, Option.bind_some, L0, L1, smN_add, pk_sub (Nat.le_add_right (smN (S 9) (S 0 0)) (smN (gT S j K g) (S 0 0))), Nat.add_sub_cancel_left]
theorem op_tried {S : Sp} {t : Nat} {c m : Hp} (w0 : wfNow S) (w1 : wfTold S) (w : wfLaws S) (hC : nowC S c) (hM : nowM S m) (hT : toldC S t c) (hU : toldM S m) (hL : lawC S t c) (lM : lawM S m) (hz : bzM m) (x y z : Int32) : ∃ r c' m', f11_tried x y z c = some (r, c') ∧ f12_tried x y z m = some (r, m') ∧ frC c c' ∧ frM m m' := by
  have hn := w0.1
  obtain ⟨m1, em, fr⟩ := m0_ex m
  have hM1 := hM.fr w0 fr
  simp only [f11_tried, f12_tried, em, lt, isBoxC, isBoxM, isWithin_eq, isIn_eq, hC.1, hM1.1, Option.bind_some]
  rcases wi_cases x 0 4 (by omega) (by omega) with h | ⟨j, -, hj, rfl, h⟩
  · simp only [show wi x 0 4 = 0 from h, if_true]; exact ⟨_, _, _, rfl, rfl, frC.rf, fr⟩
  have h : wi (nI j) 0 4 = 1 := h
  rcases wi_cases z 0 99 (by omega) (by omega) with h2 | ⟨K, -, hK, rfl, h2⟩
  · simp only [h, show wi z 0 99 = 0 from h2, one_ne, if_true, if_false]; exact ⟨_, _, _, rfl, rfl, frC.rf, fr⟩
  have h2 : wi (nI K) 0 99 = 1 := h2
  have j2 : (nI j = (2 : Int32)) ↔ j = 2 := by rw [show (2 : Int32) = nI 2 from rfl]; exact nI_eq (by omega) (by omega)
  simp only [h, h2, one_ne, if_false, j2]
  have both : ∀ g, whoT S j y g → ∃ r c' m', f11_tried_43 (nI j) y (nI K) c = some (r, c') ∧ f12_tried_46 (nI j) y (nI K) m1 = some (r, m') ∧ frC c c' ∧ frM m m' := fun g hg => by
    obtain ⟨c', ec, fc⟩ := triedC w0 w1 w hC hT hL lM hj hK hg
    obtain ⟨m', e2, f2⟩ := triedM w0 w1 w hM1 (hU.fr fr) hL (lM.f fr) (hz.fr fr) hj hK hg
    exact ⟨_, _, _, ec, e2, fc, fr.tr f2⟩
  by_cases q : j = 2
  · simp only [q, if_true]
    rw [q] at both
    rcases bi_cases y (S 0 0) (by omega) with h3 | ⟨i, hi, rfl, h3⟩
    · simp only [h3, if_true]; exact ⟨_, _, _, rfl, rfl, frC.rf, fr⟩
    · simp only [h3, one_ne, if_false]
      exact both (some i) (Or.inl ⟨rfl, i, hi, rfl, rfl⟩)
  · simp only [q, if_false]
    by_cases q2 : y = 0
    · simp only [q2, if_true]
      rw [q2] at both
      exact both none (Or.inr ⟨q, rfl⟩)
    · simp only [q2, if_false]; exact ⟨_, _, _, rfl, rfl, frC.rf, fr⟩
