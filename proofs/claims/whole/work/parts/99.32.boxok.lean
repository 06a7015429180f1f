/-! The call box: where it answers, on both sides; where the reference says that it throws. -/
def bxV (c : Hp) (p k : Nat) : Int32 := if k = 0 then c.1 p 5 else if k = 1 then c.1 p 2 else if k = 2 then c.1 p 6 else if k = 3 then c.1 p 7 else if k = 4 then c.1 p 8 else if k = 5 then (if c.1 p 10 = 0 then 0 else 1) else c.1 p 9
abbrev rm_boxC : Room := { frames := 1, cells := 0, slots := 0, locals := 21 }
set_option maxHeartbeats 1000000 in
theorem ok_boxC {l : Launch} (c : Hp) {j k : Nat} (hj : j < 6) (hb : bi (nI j) (c.1 6 1) = 1) (hk : k ≤ 6) : Ok ΛC l yX11_box cX11_box 4 (some .int) rm_boxC [.ref 0, .int (nI j), .int (nI k)] c (PIs (fun v => v = bxV c (8 + 2 * j) k) c) := by
  refine Ok.of RX11 rfl (by decide) ⟨rfl, rfl⟩ (Nat.le_of_ble_eq_true rfl) (fun x C => ?_)
  have hR : ∀ v : Int32, v = bxV c (8 + 2 * j) k → PIs (fun v => v = bxV c (8 + 2 * j) k) c (some (.int v)) c := fun v q => ⟨v, rfl, rfl, q⟩
  have g5 : inb (nI j) 6 = true := inb_t hj (by omega)
  have ej : ix (nI j) = j := ix_nI (by omega)
  have kb : kdC (8 + 2 * j) = 0 := by
    have := kboxC (a := 7) (i := nI j) rfl g5
    rw [ej] at this
    exact this
  show G ΛC x 0 [(0, .ref 0), (1, .int (nI j)), (2, .int (nI k))] [] c
  refine g_aload_n (q := 0) C dX11_box_0 rfl rfl ?_
  refine g_iload_n (q := 1) C dX11_box_1 rfl rfl ?_
  refine g_callV (p := 0) (As := [.int (nI j)]) C dX11_box_2 ml_X11_129 yv_f11_isBox ⟨rfl, rfl⟩ ⟨Nat.le_of_ble_eq_true rfl, Nat.le_of_ble_eq_true rfl⟩ (hpC rfl rfl) rfl rfl rfl (Nat.le_of_ble_eq_true rfl) (ok_f11_isBox (K := fun v => v = 1) (nI j) c ⟨1, by rw [isBoxC, hb], rfl⟩) ?_
  rintro _ _ ⟨r1, rfl, rfl, rfl⟩
  show G ΛC x 5 [(0, .ref 0), (1, .int (nI j)), (2, .int (nI k))] [.int 1] c
  refine g_if_ne (tgt := 18) C dX11_box_5 (by decide) (fun _ => ?_) (fun z => absurd z (by decide))
  refine g_aload_n (q := 0) C dX11_box_18 rfl rfl ?_
  refine g_getF (k := 2) (q := 6) C dX11_box_19 (hpC rfl rfl) rfl fl_X11_30 rfl rfl ?_
  refine g_getF (k := 0) (q := 7) C dX11_box_22 (hpC rfl rfl) rfl fl_X11_140 rfl rfl ?_
  refine g_iload_n (q := 1) C dX11_box_25 rfl rfl ?_
  refine g_aald (q := 8 + 2 * j) C dX11_box_26 (hpC rfl rfl) rfl (inb_of rfl g5) (by rw [ej]) ?_
  refine g_astore_n C dX11_box_27 rfl (by decide) (L' := [(3, .ref (8 + 2 * j)), (0, .ref 0), (1, .int (nI j)), (2, .int (nI k))]) rfl ?_
  refine g_iload_n (q := 3) C dX11_box_28 rfl rfl ?_
  have ks : k = 0 ∨ k = 1 ∨ k = 2 ∨ k = 3 ∨ k = 4 ∨ k = 5 ∨ k = 6 := by omega
  rcases ks with rfl | rfl | rfl | rfl | rfl | rfl | rfl
  · refine g_tableIn (tgt := 72) C dX11_box_29 (by decide) (by decide) rfl (by decide) ?_
    refine g_aload_n (q := 0) C dX11_box_72 rfl rfl ?_
    refine g_getI (k := 5) C dX11_box_73 (hpC kb rfl) kb fl_X11_144 rfl ?_
    exact g_iret C dX11_box_76 (hR _ rfl)
  · refine g_tableIn (tgt := 77) C dX11_box_29 (by decide) (by decide) rfl (by decide) ?_
    refine g_aload_n (q := 0) C dX11_box_77 rfl rfl ?_
    refine g_getI (k := 2) C dX11_box_78 (hpC kb rfl) kb fl_X11_147 rfl ?_
    exact g_iret C dX11_box_81 (hR _ rfl)
  · refine g_tableIn (tgt := 82) C dX11_box_29 (by decide) (by decide) rfl (by decide) ?_
    refine g_aload_n (q := 0) C dX11_box_82 rfl rfl ?_
    refine g_getI (k := 6) C dX11_box_83 (hpC kb rfl) kb fl_X11_150 rfl ?_
    exact g_iret C dX11_box_86 (hR _ rfl)
  · refine g_tableIn (tgt := 87) C dX11_box_29 (by decide) (by decide) rfl (by decide) ?_
    refine g_aload_n (q := 0) C dX11_box_87 rfl rfl ?_
    refine g_getI (k := 7) C dX11_box_88 (hpC kb rfl) kb fl_X11_153 rfl ?_
    exact g_iret C dX11_box_91 (hR _ rfl)
  · refine g_tableIn (tgt := 92) C dX11_box_29 (by decide) (by decide) rfl (by decide) ?_
    refine g_aload_n (q := 0) C dX11_box_92 rfl rfl ?_
    refine g_getI (k := 8) C dX11_box_93 (hpC kb rfl) kb fl_X11_156 rfl ?_
    exact g_iret C dX11_box_96 (hR _ rfl)
  · refine g_tableIn (tgt := 97) C dX11_box_29 (by decide) (by decide) rfl (by decide) ?_
    refine g_aload_n (q := 0) C dX11_box_97 rfl rfl ?_
    refine g_getI (k := 10) C dX11_box_98 (hpC kb rfl) kb fl_X11_159 rfl ?_
    refine g_if_eq (tgt := 108) C dX11_box_101 (by decide) (fun z => ?_) (fun z => ?_)
    · refine g_iconst (v := 0) C dX11_box_108 (by decide) ?_
      refine g_iret C dX11_box_109 (hR _ ?_)
      show _ = (if c.1 (8 + 2 * j) 10 = 0 then (0 : Int32) else 1)
      rw [if_pos z]
    · refine g_iconst (v := 1) C dX11_box_104 (by decide) ?_
      refine g_goto (tgt := 109) C dX11_box_105 (by decide) ?_
      refine g_iret C dX11_box_109 (hR _ ?_)
      show _ = (if c.1 (8 + 2 * j) 10 = 0 then (0 : Int32) else 1)
      rw [if_neg z]
  · refine g_tableIn (tgt := 110) C dX11_box_29 (by decide) (by decide) rfl (by decide) ?_
    refine g_aload_n (q := 0) C dX11_box_110 rfl rfl ?_
    refine g_getI (k := 9) C dX11_box_111 (hpC kb rfl) kb fl_X11_162 rfl ?_
    exact g_iret C dX11_box_114 (hR _ rfl)
section BR
variable {S : Sp} {t : Nat} {c m : Hp}
theorem y_cases (y : Int32) : (∃ k, k ≤ 6 ∧ y = nI k) ∨ (y.toInt < 0 ∨ 6 < y.toInt) := by
  by_cases h0 : y < 0
  · right; left
    rw [Int32.lt_iff_toInt_lt] at h0
    exact h0
  · obtain ⟨k, hk, rfl⟩ := nI_of h0
    by_cases h6 : k ≤ 6
    · exact Or.inl ⟨k, h6, rfl⟩
    · right; right
      rw [nI_toInt hk]
      omega
theorem box_rel (h : RR S t c m) (x y : Int32) : (∃ j k m', j < 6 ∧ x = nI j ∧ bi (nI j) (c.1 6 1) = 1 ∧ k ≤ 6 ∧ y = nI k ∧ f12_box x y m = some (bxV c (8 + 2 * j) k, m') ∧ m'.1 0 2 = 0 ∧ RR S t c m') ∨ (bi x (c.1 6 1) = 0 ∧ ∃ r m', f12_box x y m = some (r, m') ∧ m'.1 0 2 = 1 ∧ RR S t c m') ∨ (∃ j, j < 6 ∧ x = nI j ∧ bi (nI j) (c.1 6 1) = 1 ∧ (y.toInt < 0 ∨ 6 < y.toInt) ∧ ∃ r m', f12_box x y m = some (r, m') ∧ m'.1 0 2 = 2 ∧ RR S t c m') := by
  have w := h.1.1
  have hn : S 0 0 ≤ 6 := w.1
  have hC := h.2.1.1
  have hM := h.2.2.1.1
  have mm : (wI m 0 2 0).1 0 12 = nI (S 0 0) := (wI_o (by omega)).trans hM.1
  have fr0 : frM m (wI m 0 2 0) := frM.rf.w (by unfold scrM; omega)
  rcases bi_cases x (S 0 0) (by omega) with b0 | ⟨j, hj, rfl, b1⟩
  · refine Or.inr (Or.inl ⟨by rw [hC.1]; exact b0, 0, wI (wI m 0 2 0) 0 2 1, ?_, wI_s, h.q frC.rf (fr0.w (by unfold scrM; omega))⟩)
    simp only [f12_box, lt, isBoxM, mm, b0, Option.bind_some, if_true, f12_fails]
  · have bC : bi (nI j) (c.1 6 1) = 1 := by rw [hC.1]; exact b1
    obtain ⟨v1, v2, v3, v4, v5, v6, v7, v8, v9⟩ := hM.2.2.2.2 j hj
    obtain ⟨u1, u2, u3, u4, u5, u6, u7, u8, u9, u10⟩ := hC.2.2.2.2 j hj
    obtain ⟨w1, w2, w3, w4, w5, w6, w7, w8, w9⟩ := w.2.2.2.2 j hj
    have o : ∀ q, 1 ≤ q → (wI m 0 2 0).1 q j = m.1 q j := fun q hq => wI_o (by omega)
    have i12 : inb (nI j) 12 = true := inb_t (by omega) (by omega)
    have ej : ix (nI j) = j := ix_nI (by omega)
    rcases y_cases y with ⟨k, hk, rfl⟩ | hy
    · refine Or.inl ⟨j, k, wI m 0 2 0, by omega, rfl, bC, hk, rfl, ?_, wI_s, h.q frC.rf fr0⟩
      have ks : k = 0 ∨ k = 1 ∨ k = 2 ∨ k = 3 ∨ k = 4 ∨ k = 5 ∨ k = 6 := by omega
      have hb : f12_box (nI j) (nI k) m = (if nI k = 0 then (gd (inb (nI j) 12) <| some ((wI m 0 2 0).1 24 (ix (nI j)), (wI m 0 2 0))) else if nI k = 1 then (gd (inb (nI j) 12) <| some ((wI m 0 2 0).1 7 (ix (nI j)), (wI m 0 2 0))) else if nI k = 2 then (gd (inb (nI j) 12) <| some ((wI m 0 2 0).1 25 (ix (nI j)), (wI m 0 2 0))) else if nI k = 3 then (gd (inb (nI j) 12) <| some ((wI m 0 2 0).1 26 (ix (nI j)), (wI m 0 2 0))) else if nI k = 4 then (gd (inb (nI j) 12) <| some ((wI m 0 2 0).1 27 (ix (nI j)), (wI m 0 2 0))) else if nI k = 5 then (gd (inb (nI j) 12) <| if (wI m 0 2 0).1 28 (ix (nI j)) = 0 then (some (0, (wI m 0 2 0))) else (some (1, (wI m 0 2 0)))) else if nI k = 6 then (gd (inb (nI j) 12) <| some ((wI m 0 2 0).1 29 (ix (nI j)), (wI m 0 2 0))) else ((f12_fails 2 (wI m 0 2 0)).bind fun (r19, h20) => some (r19, h20))) := by
        simp only [f12_box, lt, isBoxM, mm, b1, Option.bind_some, one_ne, if_false]
      rw [hb, i12, ej, o 24 (by omega), o 7 (by omega), o 25 (by omega), o 26 (by omega), o 27 (by omega), o 28 (by omega), o 29 (by omega)]
      rcases ks with rfl | rfl | rfl | rfl | rfl | rfl | rfl
      · rw [if_pos (by decide)]
        show some (m.1 24 j, _) = some (c.1 (8 + 2 * j) 5, _)
        rw [v3, u4]
      · rw [if_neg (by decide), if_pos (by decide)]
        show some (m.1 7 j, _) = some (c.1 (8 + 2 * j) 2, _)
        rw [v1, u1]
      · rw [if_neg (by decide), if_neg (by decide), if_pos (by decide)]
        show some (m.1 25 j, _) = some (c.1 (8 + 2 * j) 6, _)
        rw [v4, u5]
      · rw [if_neg (by decide), if_neg (by decide), if_neg (by decide), if_pos (by decide)]
        show some (m.1 26 j, _) = some (c.1 (8 + 2 * j) 7, _)
        rw [v5, u6]
      · rw [if_neg (by decide), if_neg (by decide), if_neg (by decide), if_neg (by decide), if_pos (by decide)]
        show some (m.1 27 j, _) = some (c.1 (8 + 2 * j) 8, _)
        rw [v6, u7]
      · rw [if_neg (by decide), if_neg (by decide), if_neg (by decide), if_neg (by decide), if_neg (by decide), if_pos (by decide)]
        show (if m.1 28 j = 0 then some (0, _) else some (1, _)) = some ((if c.1 (8 + 2 * j) 10 = 0 then (0 : Int32) else 1), _)
        rw [v8, u9]
        split <;> rfl
      · rw [if_neg (by decide), if_neg (by decide), if_neg (by decide), if_neg (by decide), if_neg (by decide), if_neg (by decide), if_pos (by decide)]
        show some (m.1 29 j, _) = some (c.1 (8 + 2 * j) 9, _)
        rw [v7, u8]
    · refine Or.inr (Or.inr ⟨j, by omega, rfl, bC, hy, 0, wI (wI m 0 2 0) 0 2 2, ?_, wI_s, h.q frC.rf (fr0.w (by unfold scrM; omega))⟩)
      have ny : ∀ k, k ≤ 6 → ¬ y = nI k := fun k hk e => by
        subst e
        rw [nI_toInt (by omega)] at hy
        omega
      have n0 : ¬ y = 0 := ny 0 (by omega)
      have n1 : ¬ y = 1 := ny 1 (by omega)
      have n2 : ¬ y = 2 := ny 2 (by omega)
      have n3 : ¬ y = 3 := ny 3 (by omega)
      have n4 : ¬ y = 4 := ny 4 (by omega)
      have n5 : ¬ y = 5 := ny 5 (by omega)
      have n6 : ¬ y = 6 := ny 6 (by omega)
      simp only [f12_box, lt, isBoxM, mm, b1, Option.bind_some, one_ne, if_false, n0, n1, n2, n3, n4, n5, n6, f12_fails]
end BR
