/-! Reading a text: names that are sought; guests. -/
def fnd (N : Nat → Int32) (v : Int32) : Nat → Option Nat
  | 0 => none
  | n + 1 => match fnd N v n with
    | some j => some j
    | none => if N n = v then some n else none
theorem fnd_s {N : Nat → Int32} {v : Int32} : ∀ n, (fnd N v n = none → ∀ i, i < n → ¬ N i = v) ∧ ∀ j, fnd N v n = some j → j < n ∧ N j = v ∧ ∀ i, i < j → ¬ N i = v
  | 0 => ⟨fun _ i hi => (by omega), fun j h => (by cases h)⟩
  | n + 1 => by
    obtain ⟨h1, h2⟩ := fnd_s (N := N) (v := v) n
    unfold fnd
    cases e : fnd N v n with
    | some j =>
      refine ⟨fun h => (by cases h), fun j' h => ?_⟩
      have : j = j' := Option.some.inj h
      subst this
      obtain ⟨a, b, c⟩ := h2 j e
      exact ⟨by omega, b, c⟩
    | none =>
      dsimp only
      by_cases q : N n = v
      · rw [if_pos q]
        refine ⟨fun h => (by cases h), fun j' h => ?_⟩
        have : n = j' := Option.some.inj h
        subst this
        exact ⟨by omega, q, h1 e⟩
      · rw [if_neg q]
        refine ⟨fun _ i hi => ?_, fun j' h => (by cases h)⟩
        by_cases z : i = n
        · rw [z]; exact q
        · exact h1 e i (by omega)
theorem fnd_c {N N' : Nat → Int32} {v : Int32} : ∀ n, (∀ i, i < n → N i = N' i) → fnd N v n = fnd N' v n
  | 0, _ => rfl
  | n + 1, h => by
    unfold fnd
    rw [fnd_c n (fun i hi => h i (by omega)), h n (by omega)]
theorem fnd_lp {N : Nat → Int32} {v : Int32} {n : Nat} {f : Int32 → Option (Int32 ⊕ Int32)} (hf : ∀ j, j ≤ n → f (nI j) = if j = n then some (.inr (-1)) else if N j = v then some (.inr (nI j)) else some (.inl (nI (j + 1)))) : lp f 0 = some (eI (fnd N v n)) := by
  obtain ⟨h1, h2⟩ := fnd_s (N := N) (v := v) n
  cases e : fnd N v n with
  | none =>
    refine lp_for1 (f := f) (fun j => nI j) n (fun j hj => ?_) ?_
    · rw [hf j (by omega), if_neg (by omega), if_neg (h1 e j hj)]
    · rw [hf n (Nat.le_refl n), if_pos rfl]; rfl
  | some j =>
    obtain ⟨a, b, d⟩ := h2 j e
    refine lp_for1 (f := f) (fun j => nI j) j (fun i hi => ?_) ?_
    · rw [hf i (by omega), if_neg (by omega), if_neg (d i hi)]
    · rw [hf j (by omega), if_neg (by omega), if_pos b]; rfl
theorem boxNamed_eq {t n : Nat} {v : Int32} {c : Hp} (h : c.1 t 5 = nI n) (hn : n ≤ 6) : f10_boxNamed t v c = some (eI (fnd (fun i => c.1 (t + 1 + 1 + 2 * i) 1) v n)) := by
  unfold f10_boxNamed f10_boxNamed_2
  refine fnd_lp (f := fun z : Int32 => f10_boxNamed_2_s t v z c) (fun j hj => ?_)
  by_cases q : j = n
  · subst q
    rw [if_pos rfl]
    simp only [f10_boxNamed_2_s, h, nI_le (Nat.le_refl j) (show j < 2 ^ 31 by omega), if_true]
  · rw [if_neg q]
    simp only [f10_boxNamed_2_s, h, nI_ge (show j < n by omega) (show n < 2 ^ 31 by omega), if_false, gd, inb_t (show j < 6 by omega) (by omega), ix_nI (show j < 2 ^ 31 by omega), if_true, nI_1]
theorem guestNamed_eq {t n : Nat} {v : Int32} {c : Hp} (h : c.1 t 8 = nI n) (hn : n ≤ 5) : f10_guestNamed t v c = some (eI (fnd (fun i => c.1 (t + 20) i) v n)) := by
  unfold f10_guestNamed f10_guestNamed_2
  refine fnd_lp (f := fun z : Int32 => f10_guestNamed_2_s t v z c) (fun j hj => ?_)
  by_cases q : j = n
  · subst q
    rw [if_pos rfl]
    simp only [f10_guestNamed_2_s, h, nI_le (Nat.le_refl j) (show j < 2 ^ 31 by omega), if_true]
  · rw [if_neg q]
    simp only [f10_guestNamed_2_s, h, nI_ge (show j < n by omega) (show n < 2 ^ 31 by omega), if_false, gd, inb_t (show j < 5 by omega) (by omega), ix_nI (show j < 2 ^ 31 by omega), if_true, nI_1]
theorem seekM {p fr n ln : Nat} {v : Int32} {m : Hp} (hl : lnM p = ln) (h : fr + n ≤ ln) (h2 : ln < 1000) : f12_seek p (nI fr) (nI n) v m = some (eI (fnd (fun i => m.1 p (fr + i)) v n)) := by
  unfold f12_seek f12_seek_3
  refine fnd_lp (f := fun z : Int32 => f12_seek_3_s p (nI fr) (nI n) v z m) (fun j hj => ?_)
  by_cases q : j = n
  · subst q
    rw [if_pos rfl]
    simp only [f12_seek_3_s, nI_le (Nat.le_refl j) (show j < 2 ^ 31 by omega), if_true]
  · rw [if_neg q]
    simp only [f12_seek_3_s, nI_ge (show j < n by omega) (show n < 2 ^ 31 by omega), if_false, gd, nI_add, hl, inb_t (show fr + j < ln by omega) (by omega), ix_nI (show fr + j < 2 ^ 31 by omega), if_true, nI_1]
def addG (D : Sp) (nm w d : Nat) : Sp := fun a b => if a = 0 ∧ b = 1 then D 0 1 + 1 else if a = 11 ∧ b = D 0 1 then nm else if a = 12 ∧ b = D 0 1 then w else if a = 13 ∧ b = D 0 1 then d else D a b
theorem addG_o {D : Sp} {nm w d a b : Nat} (h : ¬ (a = 0 ∧ b = 1)) (h2 : ¬ ((11 ≤ a ∧ a ≤ 13) ∧ b = D 0 1)) : addG D nm w d a b = D a b := by
  unfold addG
  rw [if_neg h, if_neg (by omega), if_neg (by omega), if_neg (by omega)]
section READ3
variable {T : Nat → Nat} {E t : Nat} {c0 m0 : Hp} {D D2 : Sp} {p s x a : Nat} {c m : Hp}
theorem FCl.guest48 {f : Nat} (h : FCl t c0 f s c) (x1 s0 : Int32) : f7_readGuest_48 x1 s0 c = some c := by
  simp only [f7_readGuest_48, h.check, h.step, h.num, Option.bind_some, h.ne, if_false]
theorem FCl.guest17 {f : Nat} (h : FCl t c0 f s c) (s0 : Int32) : f7_readGuest_17 s0 c = some c := by
  obtain ⟨n, hn, e⟩ := h.2.2.2.2.2.2.2.2
  have hkd := kd10 h.2.2.2.2.1.2
  simp only [f7_readGuest_17, h.check, h.step, h.name, Option.bind_some, h.2.2.2.2.1.1, gd, hkd, if_true, guestNamed_eq e hn, h.guest48, ite_self]
theorem guest_line (h : RB T E t c0 m0 D D p s x a c m) (hx : x ≠ 0) : LO T E t c0 m0 s (f7_readGuest c) (f12_guestLine m) := by
  have hkd := kd10 h.2.2.1.2
  have hr := h.2.2.1.1
  have hsp := h.lt hx
  have d1 := h.2.2.2.1
  have d2 := h.2.2.2.2.1
  have w := h.2.2.2.2.2.1
  have v8 : c.1 t 8 = nI (D 0 1) := d1.1.2.2.2.1
  have v19 : m.1 0 19 = nI (D 0 1) := d2.1.2.2.2.1
  have w1 := w.2.1
  by_cases q : D 0 1 = 5
  · obtain ⟨c1, m1, e1, e2, g1, g2⟩ := h.fail (f := 2) (by omega)
    have e1 : f7_fail 2 c = some c1 := e1
    have e2 : f12_wrong 2 m = some (0, m1) := e2
    have z8 : (5 : Int32) ≤ c.1 t 8 := by rw [v8, q]; decide
    have z19 : m.1 0 19 = 5 := by rw [v19, q]; rfl
    have hg := g1.guest17 0
    refine Or.inr ⟨2, s, c1, m1, ?_, ?_, g1, g2⟩
    · simp only [f7_readGuest, hr, Option.bind_some, gd, hkd, if_true, z8]
      unfold f7_readGuest_17 at hg ⊢
      simp only [f7_check, if_true, e1, Option.bind_some]
      rw [g1.check, Option.bind_some] at hg
      exact hg
    · simp only [f12_guestLine, z19, if_true, e2, Option.bind_some, gd, bzz]
  · have z8 : ¬ (5 : Int32) ≤ c.1 t 8 := by rw [v8, show (5 : Int32) = nI 5 from rfl]; exact nI_ge (by omega) (by omega)
    have z19 : ¬ m.1 0 19 = 5 := by rw [v19, show (5 : Int32) = nI 5 from rfl, nI_eq (by omega) (by omega)]; exact q
    obtain ⟨c1, m1, p1, s1, x1, a1, e1, e2, k1, hp1, fc1, fm1⟩ := h.next
    have es : f7_step c = some c1 := by simp only [f7_step, h.2.1.1, if_true, e1, Option.bind_some]
    have hr1 := k1.2.2.1.1
    have ss1 : s1 ≤ p1 := k1.1.2.2.2.2.2.1
    have v8' : c1.1 t 8 = nI (D 0 1) := k1.2.2.2.1.1.2.2.2.1
    have v19' : m1.1 0 19 = nI (D 0 1) := k1.2.2.2.2.1.1.2.2.2.1
    have eC : ∀ (v : Int32) (c2 : Hp), f7_takeName c1 = some (v, c2) → f7_readGuest c = (c2.2.2 3 2).bind fun p8 => gd (decide (kdC p8 = 10)) <| (f10_guestNamed p8 v c2).bind fun r10 => if r10 = (-1) then (f7_readGuest_48 v 1 c2) else (f7_readGuest_48 v 0 c2) := by
      intro v c2 ev
      simp only [f7_readGuest, f7_readGuest_17, hr, Option.bind_some, gd, hkd, if_true, z8, if_false, f7_check, one_ne, es, ev]
    have eM : f12_guestLine m = (f12_newName 11 5 (nI (D 0 1)) m1).bind fun (r3, h4) => if r3 = 0 then (some ((0 : Int32), h4)) else (lt (5 + (h4.1 0 19)) fun v6 => (f12_number 0 99 h4).bind fun (r7, h8) => if r7 = 0 then (some ((0 : Int32), h8)) else (gd (inb v6 10) <| lt (wI h8 12 (ix v6) (h8.1 0 11)) fun h11 => (f12_number 0 9 h11).bind fun (r12, h13) => if r12 = 0 then (some ((0 : Int32), h13)) else (gd (inb v6 10) <| lt (wI h13 13 (ix v6) (h13.1 0 11)) fun h16 => lt (wI h16 0 19 ((h16.1 0 19) + 1)) fun h17 => some ((1 : Int32), h17)))) := by
      simp only [f12_guestLine, z19, if_false, e2, Option.bind_some, v19']
    rcases k1.name with ⟨-, ha, n1, n2, n3⟩ | ⟨nk, c2, m2, n1, n2, g1, g2, -⟩
    · -- a name
      have sC := guestNamed_eq (v := nI a1) v8' w1
      have sM := seekM (p := 11) (fr := 5) (n := D 0 1) (ln := 10) (v := nI a1) (m := m1) rfl (by omega) (by omega)
      have sM : f12_seek 11 5 (nI (D 0 1)) (nI a1) m1 = _ := sM
      rw [fnd_c (N' := fun i => m1.1 11 (5 + i)) (D 0 1) (fun i hi => by rw [(k1.2.2.2.1.2.2.1 i hi).1, (k1.2.2.2.2.1.2.2.2.1 i hi).1])] at sC
      rw [eC _ _ n1, eM]
      cases ho : fnd (fun i => m1.1 11 (5 + i)) (nI a1) (D 0 1) with
      | some j =>
        obtain ⟨hj, -, -⟩ := (fnd_s (D 0 1)).2 j ho
        rw [ho, eI_s] at sC sM
        obtain ⟨c2, m2, e3, e4, g1, g2⟩ := k1.fail (f := 3) (by omega)
        have e3 : f7_fail 3 c1 = some c2 := e3
        have e4 : f12_wrong 3 m1 = some (0, m2) := e4
        have hg := g1.guest48 (nI a1) 0
        refine Or.inr ⟨3, s1, c2, m2, ?_, ?_, g1, g2⟩
        · simp only [hr1, Option.bind_some, gd, hkd, if_true, sC, m1_ne (show j < 2 ^ 31 by omega), if_false]
          unfold f7_readGuest_48 at hg ⊢
          simp only [f7_check, if_true, e3, Option.bind_some]
          rw [g1.check, Option.bind_some] at hg
          exact hg
        · simp only [f12_newName, n2, if_true, n3, sM, Option.bind_some, nI_pos (show j < 2 ^ 31 by omega), if_false, e4, gd, bzz]
      | none =>
        rw [ho, eI_n] at sC sM
        have dm : drM D (wI m1 11 (5 + D 0 1) (nI a1)) := k1.2.2.2.2.1.fr (fun q k n => wI_o (by omega))
        have k1' := k1.wM (D' := D) (q := 11) (k := 5 + D 0 1) (v := nI a1) (by unfold rdM; omega) (by omega) dm
        obtain ⟨c2, m2, p2, s2, x2, a2, e3, e4, k2, hp2, fc2, fm2⟩ := k1'.next
        have es2 : f7_step c1 = some c2 := by simp only [f7_step, k1.2.1.1, if_true, e3, Option.bind_some]
        have ss2 : s2 ≤ p2 := k2.1.2.2.2.2.2.1
        have z5 : (5 + nI (D 0 1) : Int32) = nI (5 + D 0 1) := by rw [lit, nI_add]
        have eNM : f12_newName 11 5 (nI (D 0 1)) m1 = some (1, m2) := by
          simp only [f12_newName, n2, if_true, n3, sM, Option.bind_some, show ((-1 : Int32) < 0) = True from by decide, gd, z5, show lnM 11 = 10 from rfl, inb_t (show 5 + D 0 1 < 10 by omega) (by omega), ix_nI (show 5 + D 0 1 < 2 ^ 31 by omega), lt, e4]
        have v19'' : m2.1 0 19 = nI (D 0 1) := k2.2.2.2.2.1.1.2.2.2.1
        have e48 : ∀ r14 r16 c3 c4, f7_takeNumber 0 99 c2 = some (r14, c3) → f7_takeNumber 0 9 c3 = some (r16, c4) → ((c1.2.2 3 2).bind fun p8 => gd (decide (kdC p8 = 10)) <| (f10_guestNamed p8 (nI a1) c1).bind fun r10 => if r10 = (-1) then (f7_readGuest_48 (nI a1) 1 c1) else (f7_readGuest_48 (nI a1) 0 c1)) = if c4.1 3 3 = 0 then ((c4.2.2 3 2).bind fun p19 => gd (decide (kdC p19 = 10)) <| (c4.2.2 3 2).bind fun p21 => gd (decide (kdC p21 = 10)) <| gd (inb (c4.1 p21 8) 5) <| lt (wI c4 (p19 + 20) (ix (c4.1 p21 8)) (nI a1)) fun h24 => (h24.2.2 3 2).bind fun p25 => gd (decide (kdC p25 = 10)) <| (h24.2.2 3 2).bind fun p27 => gd (decide (kdC p27 = 10)) <| gd (inb (h24.1 p27 8) 5) <| lt (wI h24 (p25 + 21) (ix (h24.1 p27 8)) r14) fun h30 => (h30.2.2 3 2).bind fun p31 => gd (decide (kdC p31 = 10)) <| (h30.2.2 3 2).bind fun p33 => gd (decide (kdC p33 = 10)) <| gd (inb (h30.1 p33 8) 5) <| lt (wI h30 (p31 + 22) (ix (h30.1 p33 8)) r16) fun h36 => (h36.2.2 3 2).bind fun p37 => gd (decide (kdC p37 = 10)) <| lt (wI h36 p37 8 ((h36.1 p37 8) + 1)) fun h39 => some (h39)) else (some (c4)) := by
          intro r14 r16 c3 c4 y1 y2
          simp only [hr1, Option.bind_some, gd, hkd, if_true, sC, f7_readGuest_48, f7_check, one_ne, if_false, es2, y1, y2]
        rcases k2.num (lo := 0) (hi := 99) (by omega) (by omega) with ⟨v, c3, m3, p3, s3, x3, a3, -, hv, y1, y2, y3, k3, hp3, fc3, fm3, -, -⟩ | ⟨f, c3, m3, r, y1, -, y2, g1, g2⟩
        · have y1 : f7_takeNumber 0 99 c2 = some (nI v, c3) := y1
          have y2 : f12_number 0 99 m2 = some (1, m3) := y2
          have ss3 : s3 ≤ p3 := k3.1.2.2.2.2.2.1
          have dm3 : drM D (wI m3 12 (5 + D 0 1) (nI v)) := k3.2.2.2.2.1.fr (fun q k n => wI_o (by omega))
          have k3' := k3.wM (D' := D) (q := 12) (k := 5 + D 0 1) (v := nI v) (by unfold rdM; omega) (by omega) dm3
          rcases k3'.num (lo := 0) (hi := 9) (by omega) (by omega) with ⟨u, c4, m4, p4, s4, x4, a4, -, hu, b1, b2, b3, k4, hp4, fc4, fm4, -, -⟩ | ⟨f, c4, m4, r, b1, -, b2, g1, g2⟩
          · have b1 : f7_takeNumber 0 9 c3 = some (nI u, c4) := b1
            have b2 : f12_number 0 9 (wI m3 12 (5 + D 0 1) (nI v)) = some (1, m4) := b2
            have hr4 := k4.2.2.1.1
            have f4 := k4.2.1.1
            have dC := k4.2.2.2.1
            have dM := k4.2.2.2.2.1
            have v84 : c4.1 t 8 = nI (D 0 1) := dC.1.2.2.2.1
            have v194 : m4.1 0 19 = nI (D 0 1) := dM.1.2.2.2.1
            have ht := h.2.2.1.2
            obtain ⟨C, eCC⟩ : ∃ C, C = wI (wI (wI (wI c4 (t + 20) (D 0 1) (nI a1)) (t + 21) (D 0 1) (nI v)) (t + 22) (D 0 1) (nI u)) t 8 (nI (D 0 1 + 1)) := ⟨_, rfl⟩
            obtain ⟨M, eMM⟩ : ∃ M, M = wI (wI m4 13 (5 + D 0 1) (nI u)) 0 19 (nI (D 0 1 + 1)) := ⟨_, rfl⟩
            have oC : ∀ q k, ¬ (q = t ∧ k = 8) → ¬ ((t + 20 ≤ q ∧ q ≤ t + 22) ∧ k = D 0 1) → C.1 q k = c4.1 q k := fun q k n1 n2 => by rw [eCC, wI_o n1, wI_o (by omega), wI_o (by omega), wI_o (by omega)]
            have oM : ∀ q k, ¬ (q = 0 ∧ k = 19) → ¬ (q = 13 ∧ k = 5 + D 0 1) → M.1 q k = m4.1 q k := fun q k n1 n2 => by rw [eMM, wI_o n1, wI_o n2]
            have m12 : m4.1 12 (5 + D 0 1) = nI v := by rw [fm4.1 _ _ (by omega), wI_o (by omega), wI_s]
            have m11 : m4.1 11 (5 + D 0 1) = nI a1 := by rw [fm4.1 _ _ (by omega), wI_o (by omega), wI_o (by omega), fm3.1 _ _ (by omega), wI_o (by omega), fm2.1 _ _ (by omega), wI_s]
            have wD : wfD (addG D a1 v u) := by
              obtain ⟨h1, h2, h3, h4, h5, h6, h7, h8, h9, h10, h11⟩ := w
              have q01 : addG D a1 v u 0 1 = D 0 1 + 1 := rfl
              refine ⟨by rw [addG_o (by omega) (by omega)]; exact h1, by rw [q01]; omega, by rw [addG_o (by omega) (by omega)]; exact h3, by rw [addG_o (by omega) (by omega)]; exact h4, by rw [addG_o (by omega) (by omega)]; exact h5, by rw [addG_o (by omega) (by omega)]; exact h6, by rw [addG_o (by omega) (by omega)]; exact h7, by rw [addG_o (by omega) (by omega)]; exact h8, fun i hi => ?_, fun g hg => ?_, h11.cg (addG_o (by omega) (by omega)) (fun a b _ _ => addG_o (by omega) (by omega))⟩
              · rw [addG_o (by omega) (by omega)] at hi
                rw [addG_o (a := 1) (by omega) (by omega), addG_o (a := 2) (by omega) (by omega), addG_o (a := 4) (by omega) (by omega), addG_o (a := 5) (by omega) (by omega)]
                obtain ⟨b1, b2, b3, b4, b5, b6⟩ := h9 i hi
                exact ⟨b1, b2, b3, b4, b5, fun k hk => by rw [addG_o (by omega) (by omega)]; exact b6 k hk⟩
              · rw [q01] at hg
                by_cases z : g = D 0 1
                · rw [z]
                  have i1 : addG D a1 v u 12 (D 0 1) = v := by unfold addG; rw [if_neg (by omega), if_neg (by omega), if_pos (by omega)]
                  have i2 : addG D a1 v u 13 (D 0 1) = u := by unfold addG; rw [if_neg (by omega), if_neg (by omega), if_neg (by omega), if_pos (by omega)]
                  rw [i1, i2]; exact ⟨hv, hu⟩
                · rw [addG_o (by omega) (by omega), addG_o (by omega) (by omega)]; exact h10 g (by omega)
            have i1 : addG D a1 v u 11 (D 0 1) = a1 := by unfold addG; rw [if_neg (by omega), if_pos (by omega)]
            have i2 : addG D a1 v u 12 (D 0 1) = v := by unfold addG; rw [if_neg (by omega), if_neg (by omega), if_pos (by omega)]
            have i3 : addG D a1 v u 13 (D 0 1) = u := by unfold addG; rw [if_neg (by omega), if_neg (by omega), if_neg (by omega), if_pos (by omega)]
            have q01 : addG D a1 v u 0 1 = D 0 1 + 1 := rfl
            have dC' : drC (addG D a1 v u) t C := by
              obtain ⟨⟨a1', a2', a3', a4', a5', a6', a7', a8', a9'⟩, b, g, l1, l2, l3⟩ := dC
              have hn6 := w.1
              refine ⟨⟨?_, ?_, ?_, ?_, ?_, ?_, ?_, ?_, ?_⟩, fun i hi => ?_, fun g' hg => ?_, l1, fun i hi => ?_, fun l hl => ?_⟩
              · rw [addG_o (by omega) (by omega), oC _ _ (by omega) (by omega)]; exact a1'
              · rw [addG_o (by omega) (by omega), oC _ _ (by omega) (by omega)]; exact a2'
              · rw [addG_o (by omega) (by omega), oC _ _ (by omega) (by omega)]; exact a3'
              · rw [q01, eCC, wI_s]
              · rw [addG_o (by omega) (by omega), oC _ _ (by omega) (by omega)]; exact a5'
              · rw [addG_o (by omega) (by omega), oC _ _ (by omega) (by omega)]; exact a6'
              · rw [addG_o (by omega) (by omega), oC _ _ (by omega) (by omega)]; exact a7'
              · rw [addG_o (by omega) (by omega), oC _ _ (by omega) (by omega)]; exact a8'
              · rw [addG_o (by omega) (by omega), oC _ _ (by omega) (by omega)]; exact a9'
              · rw [addG_o (by omega) (by omega)] at hi
                exact ((b i hi).fr (fun k => oC _ _ (by omega) (by omega)) (fun k => oC _ _ (by omega) (by omega))).cg (fun a b h1 h2 => addG_o (by omega) (by omega))
              · rw [q01] at hg
                by_cases z : g' = D 0 1
                · rw [z, i1, i2, i3, eCC]
                  refine ⟨?_, ?_, ?_⟩
                  · rw [wI_o (by omega), wI_o (by omega), wI_o (by omega), wI_s]
                  · rw [wI_o (by omega), wI_o (by omega), wI_s]
                  · rw [wI_o (by omega), wI_s]
                · rw [addG_o (by omega) (by omega), addG_o (by omega) (by omega), addG_o (by omega) (by omega), oC _ _ (by omega) (by omega), oC _ _ (by omega) (by omega), oC _ _ (by omega) (by omega)]; exact g g' (by omega)
              · rw [addG_o (by omega) (by omega)] at hi
                rw [addG_o (by omega) (by omega), addG_o (by omega) (by omega), oC _ _ (by omega) (by omega), oC _ _ (by omega) (by omega)]; exact l2 i hi
              · rw [addG_o (by omega) (by omega), addG_o (by omega) (by omega), oC _ _ (by omega) (by omega), oC _ _ (by omega) (by omega)]; exact l3 l hl
            have dM' : drM (addG D a1 v u) M := by
              obtain ⟨⟨a1', a2', a3', a4', a5', a6', a7', a8', a9', a10'⟩, b, z, g, l2, l3⟩ := dM
              refine ⟨⟨?_, ?_, ?_, ?_, ?_, ?_, ?_, ?_, ?_, ?_⟩, fun i hi => ?_, fun i h1 h2 => ?_, fun g' hg => ?_, fun i hi => ?_, fun l hl => ?_⟩
              · rw [addG_o (by omega) (by omega), oM _ _ (by omega) (by omega)]; exact a1'
              · rw [addG_o (by omega) (by omega), oM _ _ (by omega) (by omega)]; exact a2'
              · rw [addG_o (by omega) (by omega), oM _ _ (by omega) (by omega)]; exact a3'
              · rw [q01, eMM, wI_s]
              · rw [addG_o (by omega) (by omega), oM _ _ (by omega) (by omega)]; exact a5'
              · rw [addG_o (by omega) (by omega), oM _ _ (by omega) (by omega)]; exact a6'
              · rw [addG_o (by omega) (by omega), oM _ _ (by omega) (by omega)]; exact a7'
              · rw [addG_o (by omega) (by omega), oM _ _ (by omega) (by omega)]; exact a8'
              · rw [addG_o (by omega) (by omega), oM _ _ (by omega) (by omega)]; exact a9'
              · rw [addG_o (by omega) (by omega), oM _ _ (by omega) (by omega)]; exact a10'
              · rw [addG_o (by omega) (by omega)] at hi
                rw [addG_o (a := 10) (by omega) (by omega), addG_o (a := 2) (by omega) (by omega), addG_o (a := 1) (by omega) (by omega), addG_o (a := 4) (by omega) (by omega), addG_o (a := 5) (by omega) (by omega), oM 5 _ (by omega) (by omega), oM 6 _ (by omega) (by omega), oM 7 _ (by omega) (by omega), oM 9 _ (by omega) (by omega), oM 10 _ (by omega) (by omega)]
                obtain ⟨b1, b2, b3, b4, b5, b6⟩ := b i hi
                exact ⟨b1, b2, b3, b4, b5, fun k hk => by rw [addG_o (by omega) (by omega), oM _ _ (by omega) (by omega)]; exact b6 k hk⟩
              · rw [addG_o (by omega) (by omega)] at h1
                rw [oM _ _ (by omega) (by omega), oM _ _ (by omega) (by omega)]; exact z i h1 h2
              · rw [q01] at hg
                by_cases zz : g' = D 0 1
                · rw [zz, i1, i2, i3]
                  refine ⟨?_, ?_, ?_⟩
                  · rw [oM _ _ (by omega) (by omega)]; exact m11
                  · rw [oM _ _ (by omega) (by omega)]; exact m12
                  · rw [eMM, wI_o (by omega), wI_s]
                · rw [addG_o (by omega) (by omega), addG_o (by omega) (by omega), addG_o (by omega) (by omega), oM _ _ (by omega) (by omega), oM _ _ (by omega) (by omega), oM _ _ (by omega) (by omega)]; exact g g' (by omega)
              · rw [addG_o (by omega) (by omega)] at hi
                rw [addG_o (a := 40) (by omega) (by omega), addG_o (a := 44) (by omega) (by omega), addG_o (a := 45) (by omega) (by omega), oM 17 _ (by omega) (by omega), oM 18 _ (by omega) (by omega), oM 19 _ (by omega) (by omega)]; exact l2 i hi
              · rw [addG_o (by omega) (by omega), addG_o (by omega) (by omega), oM 14 _ (by omega) (by omega), oM 15 _ (by omega) (by omega), oM 16 _ (by omega) (by omega)]; exact l3 l hl
            refine Or.inl ⟨addG D a1 v u, p4, s4, x4, a4, C, M, ?_, ?_, ?_, by omega⟩
            · rw [e48 _ _ _ _ y1 b1, if_pos f4]
              have u1 : (wI c4 (t + 20) (D 0 1) (nI a1)).1 t 8 = nI (D 0 1) := (wI_o (by omega)).trans v84
              have u2 : (wI (wI c4 (t + 20) (D 0 1) (nI a1)) (t + 21) (D 0 1) (nI v)).1 t 8 = nI (D 0 1) := (wI_o (by omega)).trans u1
              have u3 : (wI (wI (wI c4 (t + 20) (D 0 1) (nI a1)) (t + 21) (D 0 1) (nI v)) (t + 22) (D 0 1) (nI u)).1 t 8 = nI (D 0 1) := (wI_o (by omega)).trans u2
              simp only [hr4, Option.bind_some, gd, hkd, if_true, v84, inb_t (show D 0 1 < 5 by omega) (by omega), ix_nI (show D 0 1 < 2 ^ 31 by omega), lt, wI_r, u1, u2, u3, nI_1, ← eCC]
            · have v193 : m2.1 0 19 = nI (D 0 1) := v19''
              have w19 : (wI m4 13 (5 + D 0 1) (nI u)).1 0 19 = nI (D 0 1) := (wI_o (by omega)).trans v194
              simp only [eNM, Option.bind_some, one_ne, if_false, lt, v193, z5, y2, gd, inb_t (show 5 + D 0 1 < 10 by omega) (by omega), ix_nI (show 5 + D 0 1 < 2 ^ 31 by omega), if_true, y3, b2, b3, w19, nI_1, ← eMM]
            · obtain ⟨q1, ⟨f1, f2, f3, f4'⟩, q3, -, -, -, z, y1', y2'⟩ := k4
              refine ⟨q1.mv (fun _ => oC _ _ (by omega) (by omega)) (fun _ => oC _ _ (by omega) (by omega)) (fun k _ _ => oM _ _ (by omega) (by omega)) (fun _ => oM _ _ (by omega) (by omega)) (fun _ => oM _ _ (by omega) (by omega)), ⟨(oC _ _ (by omega) (by omega)).trans f1, (oC _ _ (by omega) (by omega)).trans f2, (oM _ _ (by omega) (by omega)).trans f3, (oM _ _ (by omega) (by omega)).trans f4'⟩, ?_, dC', dM', wD, ?_, ?_, ?_⟩
              · rw [eCC]; exact q3
              · rw [eCC]; exact (((z.w (fun i _ e => by omega)).w (fun i _ e => by omega)).w (fun i _ e => by omega)).w (fun i _ e => by omega)
              · rw [eCC]; exact (((y1'.w (by omega)).w (by omega)).w (by omega)).w (by omega)
              · rw [eMM]; exact (y2'.w (by unfold rdM; omega)).w (by unfold rdM; omega)
          · have b1 : f7_takeNumber 0 9 c3 = some (r, c4) := b1
            have b2 : f12_number 0 9 (wI m3 12 (5 + D 0 1) (nI v)) = some (0, m4) := b2
            refine Or.inr ⟨f, s3, c4, m4, ?_, ?_, g1, g2⟩
            · rw [e48 _ _ _ _ y1 b1, if_neg g1.ne]
            · simp only [eNM, Option.bind_some, one_ne, if_false, lt, v19'', z5, y2, gd, inb_t (show 5 + D 0 1 < 10 by omega) (by omega), ix_nI (show 5 + D 0 1 < 2 ^ 31 by omega), if_true, y3, b2]
        · have y1 : f7_takeNumber 0 99 c2 = some (r, c3) := y1
          have y2 : f12_number 0 99 m2 = some (0, m3) := y2
          refine Or.inr ⟨f, s2, c3, m3, ?_, ?_, g1, g2⟩
          · rw [e48 _ _ _ _ y1 (g1.num 0 9), if_neg g1.ne]
          · simp only [eNM, Option.bind_some, one_ne, if_false, lt, v19'', z5, y2, if_true]
    · -- no name
      obtain ⟨ng, hng, eg⟩ := g1.2.2.2.2.2.2.2.2
      refine Or.inr ⟨1, s1, c2, m2, ?_, ?_, g1, g2⟩
      · rw [eC _ _ n1]
        simp only [g1.2.2.2.2.1.1, Option.bind_some, gd, hkd, if_true, guestNamed_eq eg hng, g1.guest48, ite_self]
      · rw [eM]
        simp only [f12_newName, nk, if_false, n2, Option.bind_some, gd, bzz, if_true]
end READ3
