abbrev rm_f8_put : Room := { frames := 0, cells := 0, slots := 0, locals := 0 }
noncomputable def f8_put_3_s (x1 : Int32) (x2 : Int32) (h : Hp) : Option ((Int32 × Hp) ⊕ (Hp)) :=
  if x2 < 0 then (some (.inr (h))) else (if 700 ≤ h.1 1 1 then (some (.inr (h))) else (gd (inb (h.1 1 1) 700) <| lt (wI h 2 (ix (h.1 1 1)) ((x1 >>> (x2 &&& 31)).toInt8.toInt32).toInt8.toInt32) fun h4 => lt (wI h4 1 1 ((h4.1 1 1) + 1)) fun h5 => some (.inl (x2 + (-8), h5))))
set_option maxRecDepth 100000 in
set_option maxHeartbeats 4000000 in
theorem k_f8_put_3_s {x : Mx} {l : Launch} {post0 : Option Value → Hp → Prop} (C : Cx ΛC x l RX8 cX8_put rm_f8_put none 3 post0) {K : (Int32 × Hp) ⊕ (Hp) → Prop} (x1 : Int32) (x2 : Int32) (h : Hp) (hR : ∀ h : Hp, K (.inr h) → post0 none h) (hL3 : ∀ (x2 : Int32) (h : Hp), K (.inl (x2, h)) → G ΛC x 3 [(0, .ref 1), (1, .int x1), (2, .int x2)] [] h) (T : Tt (f8_put_3_s x1 x2 h) K) : G ΛC x 3 [(0, .ref 1), (1, .int x1), (2, .int x2)] [] h := by
  refine g_iload_n (q := 2) C dX8_put_3 rfl rfl ?_
  refine g_if_lt (tgt := 46) C dX8_put_4 (by decide) (fun c1 => ?_) (fun c1 => ?_)
  · have T := tt_t T c1
    exact g_vret C dX8_put_46 (hR _ (tt_some T))
  · have T := tt_f T c1
    refine g_aload_n (q := 0) C dX8_put_7 rfl rfl ?_
    refine g_getI (k := 1) C dX8_put_8 (hpC rfl rfl) rfl fl_X8_15 rfl ?_
    refine g_sipush (v := 700) C dX8_put_11 (by decide) ?_
    refine g_icmp_ge (tgt := 46) C dX8_put_14 (by decide) (fun c2 => ?_) (fun c2 => ?_)
    · have T := tt_t T c2
      exact g_vret C dX8_put_46 (hR _ (tt_some T))
    · have T := tt_f T c2
      refine g_aload_n (q := 0) C dX8_put_17 rfl rfl ?_
      refine g_getF (k := 0) (q := 2) C dX8_put_18 (hpC rfl rfl) rfl fl_X8_9 rfl rfl ?_
      refine g_aload_n (q := 0) C dX8_put_21 rfl rfl ?_
      refine g_getI (k := 1) C dX8_put_22 (hpC rfl rfl) rfl fl_X8_15 rfl ?_
      refine g_iload_n (q := 1) C dX8_put_25 rfl rfl ?_
      refine g_iload_n (q := 2) C dX8_put_26 rfl rfl ?_
      refine g_ishr C dX8_put_27 ?_
      refine g_i2b C dX8_put_28 ?_
      obtain ⟨g3, T⟩ := tt_gd T
      obtain ⟨h4, eh4, T⟩ := tt_lt T
      refine g_bast C dX8_put_29 (hpC rfl rfl) rfl (inb_of rfl g3) eh4 ?_
      refine g_aload_n (q := 0) C dX8_put_30 rfl rfl ?_
      refine g_dup C dX8_put_31 rfl ?_
      refine g_getI (k := 1) C dX8_put_32 (hpC rfl rfl) rfl fl_X8_15 rfl ?_
      refine g_iconst (v := 1) C dX8_put_35 (by decide) ?_
      refine g_iadd C dX8_put_36 ?_
      obtain ⟨h5, eh5, T⟩ := tt_lt T
      refine g_putI (k := 1) C dX8_put_37 (hpC rfl rfl) rfl fp_X8_15 rfl eh5 ?_
      refine g_iinc (v := x2 + (-8)) (q := 2) (L' := [(2, .int (x2 + (-8))), (0, .ref 1), (1, .int x1)]) C dX8_put_40 rfl (by first | rfl | exact congrArg _ (by decide)) (by decide) rfl ?_
      refine g_goto (tgt := 3) C dX8_put_43 (by decide) ?_
      refine g_sub [1, 2, 0] rfl ?_
      exact hL3 _ _ (tt_some T)

noncomputable def f8_put_3 (x1 : Int32) (x2 : Int32) (h : Hp) : Option (Hp) := lp (fun z : Int32 × Hp => f8_put_3_s x1 z.1 z.2) (x2, h)
theorem k_f8_put_3 {x : Mx} {l : Launch} {post0 : Option Value → Hp → Prop} (C : Cx ΛC x l RX8 cX8_put rm_f8_put none 3 post0) {K : Hp → Prop} (x1 : Int32) (x2 : Int32) (h : Hp) (hR : ∀ h : Hp, K h → post0 none h) (T : Tt (f8_put_3 x1 x2 h) K) : G ΛC x 3 [(0, .ref 1), (1, .int x1), (2, .int x2)] [] h :=
  lp_ind (f := fun z : Int32 × Hp => f8_put_3_s x1 z.1 z.2) (P := fun z : Int32 × Hp => G ΛC x 3 [(0, .ref 1), (1, .int x1), (2, .int z.1)] [] z.2) (K := K) (fun z T => k_f8_put_3_s C (K := KS (fun z : Int32 × Hp => G ΛC x 3 [(0, .ref 1), (1, .int x1), (2, .int z.1)] [] z.2) K) x1 z.1 z.2 hR (fun _ _ q => q) T) (x2, h) T
noncomputable def f8_put (x1 : Int32) (h : Hp) : Option (Hp) :=
  f8_put_3 x1 24 h
set_option maxRecDepth 100000 in
set_option maxHeartbeats 4000000 in
theorem k_f8_put {x : Mx} {l : Launch} {post0 : Option Value → Hp → Prop} (C : Cx ΛC x l RX8 cX8_put rm_f8_put none 3 post0) {K : Hp → Prop} (x1 : Int32) (h : Hp) (hR : ∀ h : Hp, K h → post0 none h) (T : Tt (f8_put x1 h) K) : G ΛC x 0 [(0, .ref 1), (1, .int x1)] [] h := by
  refine g_bipush (v := 24) C dX8_put_0 (by decide) ?_
  refine g_istore_n (L' := [(2, .int 24), (0, .ref 1), (1, .int x1)]) C dX8_put_2 rfl (by decide) rfl ?_
  refine g_sub [1, 2, 0] rfl ?_
  exact k_f8_put_3 C x1 24 h hR T

theorem ok_f8_put {l : Launch} {K : Hp → Prop} (x1 : Int32) (h : Hp) (T : Tt (f8_put x1 h) K) : Ok ΛC l yX8_put cX8_put 3 none rm_f8_put [.ref 1, .int x1] h (PVw K) :=
  Ok.of RX8 rfl (by decide) ⟨rfl, rfl⟩ (Nat.le_of_ble_eq_true rfl) (fun x C => k_f8_put C x1 h (fun _ q => ⟨rfl, q⟩) T)

abbrev rm_f5_clear : Room := { frames := 0, cells := 0, slots := 0, locals := 0 }
noncomputable def f5_clear_7_s (x0 : Nat) (x1 : Int32) (h : Hp) : Option ((Int32 × Hp) ⊕ (Hp)) :=
  if 3 ≤ x1 then (some (.inr (h))) else (gd (inb x1 3) <| lt (wI h (x0 + 3) (ix x1) 0) fun h4 => gd (inb x1 3) <| lt (wI h4 (x0 + 4) (ix x1) 0) fun h6 => some (.inl (x1 + 1, h6)))
set_option maxRecDepth 100000 in
set_option maxHeartbeats 4000000 in
theorem k_f5_clear_7_s {x : Mx} {l : Launch} {post0 : Option Value → Hp → Prop} (C : Cx ΛC x l RX5 cX5_clear rm_f5_clear none 2 post0) {K : (Int32 × Hp) ⊕ (Hp) → Prop} (x0 : Nat) (x1 : Int32) (kx0 : kdC x0 = 5) (h : Hp) (hR : ∀ h : Hp, K (.inr h) → post0 none h) (hL7 : ∀ (x1 : Int32) (h : Hp), K (.inl (x1, h)) → G ΛC x 7 [(0, .ref x0), (1, .int x1)] [] h) (T : Tt (f5_clear_7_s x0 x1 h) K) : G ΛC x 7 [(0, .ref x0), (1, .int x1)] [] h := by
  refine g_iload_n (q := 1) C dX5_clear_7 rfl rfl ?_
  refine g_iconst (v := 3) C dX5_clear_8 (by decide) ?_
  refine g_icmp_ge (tgt := 32) C dX5_clear_9 (by decide) (fun c2 => ?_) (fun c2 => ?_)
  · have T := tt_t T c2
    exact g_vret C dX5_clear_32 (hR _ (tt_some T))
  · have T := tt_f T c2
    refine g_aload_n (q := 0) C dX5_clear_12 rfl rfl ?_
    refine g_getF (k := 2) (q := x0 + 3) C dX5_clear_13 (hpC kx0 rfl) kx0 fl_X5_18 rfl rfl ?_
    refine g_iload_n (q := 1) C dX5_clear_16 rfl rfl ?_
    refine g_iconst (v := 0) C dX5_clear_17 (by decide) ?_
    obtain ⟨g3, T⟩ := tt_gd T
    obtain ⟨h4, eh4, T⟩ := tt_lt T
    refine g_iast C dX5_clear_18 (hpC (kf_5_2 kx0) rfl) (kf_5_2 kx0) (inb_of (lf_5_2 kx0) g3) eh4 ?_
    refine g_aload_n (q := 0) C dX5_clear_19 rfl rfl ?_
    refine g_getF (k := 3) (q := x0 + 4) C dX5_clear_20 (hpC kx0 rfl) kx0 fl_X5_21 rfl rfl ?_
    refine g_iload_n (q := 1) C dX5_clear_23 rfl rfl ?_
    refine g_iconst (v := 0) C dX5_clear_24 (by decide) ?_
    obtain ⟨g5, T⟩ := tt_gd T
    obtain ⟨h6, eh6, T⟩ := tt_lt T
    refine g_iast C dX5_clear_25 (hpC (kf_5_3 kx0) rfl) (kf_5_3 kx0) (inb_of (lf_5_3 kx0) g5) eh6 ?_
    refine g_iinc (v := x1 + 1) (q := 1) (L' := [(1, .int (x1 + 1)), (0, .ref x0)]) C dX5_clear_26 rfl (by first | rfl | exact congrArg _ (by decide)) (by decide) rfl ?_
    refine g_goto (tgt := 7) C dX5_clear_29 (by decide) ?_
    refine g_sub [1, 0] rfl ?_
    exact hL7 _ _ (tt_some T)

noncomputable def f5_clear_7 (x0 : Nat) (x1 : Int32) (h : Hp) : Option (Hp) := lp (fun z : Int32 × Hp => f5_clear_7_s x0 z.1 z.2) (x1, h)
theorem k_f5_clear_7 {x : Mx} {l : Launch} {post0 : Option Value → Hp → Prop} (C : Cx ΛC x l RX5 cX5_clear rm_f5_clear none 2 post0) {K : Hp → Prop} (x0 : Nat) (x1 : Int32) (kx0 : kdC x0 = 5) (h : Hp) (hR : ∀ h : Hp, K h → post0 none h) (T : Tt (f5_clear_7 x0 x1 h) K) : G ΛC x 7 [(0, .ref x0), (1, .int x1)] [] h :=
  lp_ind (f := fun z : Int32 × Hp => f5_clear_7_s x0 z.1 z.2) (P := fun z : Int32 × Hp => G ΛC x 7 [(0, .ref x0), (1, .int z.1)] [] z.2) (K := K) (fun z T => k_f5_clear_7_s C (K := KS (fun z : Int32 × Hp => G ΛC x 7 [(0, .ref x0), (1, .int z.1)] [] z.2) K) x0 z.1 kx0 z.2 hR (fun _ _ q => q) T) (x1, h) T
noncomputable def f5_clear (x0 : Nat) (h : Hp) : Option (Hp) :=
  lt (wI h x0 5 0) fun h1 => f5_clear_7 x0 0 h1
set_option maxRecDepth 100000 in
set_option maxHeartbeats 4000000 in
theorem k_f5_clear {x : Mx} {l : Launch} {post0 : Option Value → Hp → Prop} (C : Cx ΛC x l RX5 cX5_clear rm_f5_clear none 2 post0) {K : Hp → Prop} (x0 : Nat) (kx0 : kdC x0 = 5) (h : Hp) (hR : ∀ h : Hp, K h → post0 none h) (T : Tt (f5_clear x0 h) K) : G ΛC x 0 [(0, .ref x0)] [] h := by
  refine g_aload_n (q := 0) C dX5_clear_0 rfl rfl ?_
  refine g_iconst (v := 0) C dX5_clear_1 (by decide) ?_
  obtain ⟨h1, eh1, T⟩ := tt_lt T
  refine g_putI (k := 5) C dX5_clear_2 (hpC kx0 rfl) kx0 fp_X5_28 rfl eh1 ?_
  refine g_iconst (v := 0) C dX5_clear_5 (by decide) ?_
  refine g_istore_n (L' := [(1, .int 0), (0, .ref x0)]) C dX5_clear_6 rfl (by decide) rfl ?_
  refine g_sub [1, 0] rfl ?_
  exact k_f5_clear_7 C x0 0 kx0 h1 hR T

theorem ok_f5_clear {l : Launch} {K : Hp → Prop} (x0 : Nat) (kx0 : kdC x0 = 5) (h : Hp) (T : Tt (f5_clear x0 h) K) : Ok ΛC l yX5_clear cX5_clear 2 none rm_f5_clear [.ref x0] h (PVw K) :=
  Ok.of RX5 rfl (by decide) ⟨rfl, rfl⟩ (Nat.le_of_ble_eq_true rfl) (fun x C => k_f5_clear C x0 kx0 h (fun _ q => ⟨rfl, q⟩) T)

abbrev rm_f10_clear : Room := { frames := 1, cells := 0, slots := 0, locals := 21 }
noncomputable def f10_clear (x0 : Nat) (h : Hp) : Option (Hp) :=
  (f5_clear (x0 + 14) h).bind fun h1 => lt (wI h1 x0 5 0) fun h2 => lt (wI h2 x0 6 0) fun h3 => lt (wI h3 x0 7 0) fun h4 => lt (wI h4 x0 8 0) fun h5 => lt (wI h5 x0 9 0) fun h6 => lt (wI h6 x0 10 0) fun h7 => lt (wI h7 x0 11 0) fun h8 => lt (wI h8 x0 12 0) fun h9 => lt (wI h9 x0 13 0) fun h10 => some (h10)
set_option maxRecDepth 100000 in
set_option maxHeartbeats 4000000 in
theorem k_f10_clear {x : Mx} {l : Launch} {post0 : Option Value → Hp → Prop} (C : Cx ΛC x l RX10 cX10_clear rm_f10_clear none 1 post0) {K : Hp → Prop} (x0 : Nat) (kx0 : kdC x0 = 10) (h : Hp) (hR : ∀ h : Hp, K h → post0 none h) (T : Tt (f10_clear x0 h) K) : G ΛC x 0 [(0, .ref x0)] [] h := by
  refine g_aload_n (q := 0) C dX10_clear_0 rfl rfl ?_
  refine g_getF (k := 1) (q := x0 + 14) C dX10_clear_1 (hpC kx0 rfl) kx0 fl_X10_20 rfl rfl ?_
  refine g_callV (p := (x0 + 14)) (As := []) C dX10_clear_4 ml_X10_35 yv_f5_clear ⟨rfl, rfl⟩ ⟨Nat.le_of_ble_eq_true rfl, Nat.le_of_ble_eq_true rfl⟩ (hpC (kf_10_1 kx0) rfl) (kf_10_1 kx0) rfl rfl (Nat.le_of_ble_eq_true rfl) (ok_f5_clear (x0 + 14) (kf_10_1 kx0) h (tt_bind T)) ?_
  rintro _ h1 ⟨rfl, T⟩
  show G ΛC x 7 [(0, .ref x0)] [] h1
  refine g_aload_n (q := 0) C dX10_clear_7 rfl rfl ?_
  refine g_iconst (v := 0) C dX10_clear_8 (by decide) ?_
  obtain ⟨h2, eh2, T⟩ := tt_lt T
  refine g_putI (k := 5) C dX10_clear_9 (hpC kx0 rfl) kx0 fp_X10_38 rfl eh2 ?_
  refine g_aload_n (q := 0) C dX10_clear_12 rfl rfl ?_
  refine g_iconst (v := 0) C dX10_clear_13 (by decide) ?_
  obtain ⟨h3, eh3, T⟩ := tt_lt T
  refine g_putI (k := 6) C dX10_clear_14 (hpC kx0 rfl) kx0 fp_X10_42 rfl eh3 ?_
  refine g_aload_n (q := 0) C dX10_clear_17 rfl rfl ?_
  refine g_iconst (v := 0) C dX10_clear_18 (by decide) ?_
  obtain ⟨h4, eh4, T⟩ := tt_lt T
  refine g_putI (k := 7) C dX10_clear_19 (hpC kx0 rfl) kx0 fp_X10_45 rfl eh4 ?_
  refine g_aload_n (q := 0) C dX10_clear_22 rfl rfl ?_
  refine g_iconst (v := 0) C dX10_clear_23 (by decide) ?_
  obtain ⟨h5, eh5, T⟩ := tt_lt T
  refine g_putI (k := 8) C dX10_clear_24 (hpC kx0 rfl) kx0 fp_X10_48 rfl eh5 ?_
  refine g_aload_n (q := 0) C dX10_clear_27 rfl rfl ?_
  refine g_iconst (v := 0) C dX10_clear_28 (by decide) ?_
  obtain ⟨h6, eh6, T⟩ := tt_lt T
  refine g_putI (k := 9) C dX10_clear_29 (hpC kx0 rfl) kx0 fp_X10_51 rfl eh6 ?_
  refine g_aload_n (q := 0) C dX10_clear_32 rfl rfl ?_
  refine g_iconst (v := 0) C dX10_clear_33 (by decide) ?_
  obtain ⟨h7, eh7, T⟩ := tt_lt T
  refine g_putI (k := 10) C dX10_clear_34 (hpC kx0 rfl) kx0 fp_X10_54 rfl eh7 ?_
  refine g_aload_n (q := 0) C dX10_clear_37 rfl rfl ?_
  refine g_iconst (v := 0) C dX10_clear_38 (by decide) ?_
  obtain ⟨h8, eh8, T⟩ := tt_lt T
  refine g_putI (k := 11) C dX10_clear_39 (hpC kx0 rfl) kx0 fp_X10_57 rfl eh8 ?_
  refine g_aload_n (q := 0) C dX10_clear_42 rfl rfl ?_
  refine g_iconst (v := 0) C dX10_clear_43 (by decide) ?_
  obtain ⟨h9, eh9, T⟩ := tt_lt T
  refine g_putZ (k := 12) C dX10_clear_44 (hpC kx0 rfl) kx0 fp_X10_60 rfl (Or.inl rfl) eh9 ?_
  refine g_aload_n (q := 0) C dX10_clear_47 rfl rfl ?_
  refine g_iconst (v := 0) C dX10_clear_48 (by decide) ?_
  obtain ⟨h10, eh10, T⟩ := tt_lt T
  refine g_putZ (k := 13) C dX10_clear_49 (hpC kx0 rfl) kx0 fp_X10_64 rfl (Or.inl rfl) eh10 ?_
  exact g_vret C dX10_clear_52 (hR _ (tt_some T))

theorem ok_f10_clear {l : Launch} {K : Hp → Prop} (x0 : Nat) (kx0 : kdC x0 = 10) (h : Hp) (T : Tt (f10_clear x0 h) K) : Ok ΛC l yX10_clear cX10_clear 1 none rm_f10_clear [.ref x0] h (PVw K) :=
  Ok.of RX10 rfl (by decide) ⟨rfl, rfl⟩ (Nat.le_of_ble_eq_true rfl) (fun x C => k_f10_clear C x0 kx0 h (fun _ q => ⟨rfl, q⟩) T)

abbrev rm_f8_isLetter : Room := { frames := 0, cells := 0, slots := 0, locals := 0 }
noncomputable def f8_isLetter_16 : Option (Int32) :=
  some 0
set_option maxRecDepth 100000 in
set_option maxHeartbeats 4000000 in
theorem k_f8_isLetter_16 {x : Mx} {l : Launch} {post0 : Option Value → Hp → Prop} (C : Cx ΛC x l RX8 cX8_isLetter rm_f8_isLetter (some .boolean) 1 post0) {K : Int32 → Prop} (h : Hp) (hR : ∀ v : Int32, K v → post0 (some (.int v)) h) (T : Tt (f8_isLetter_16) K) : G ΛC x 16 [] [] h := by
  refine g_iconst (v := 0) C dX8_isLetter_16 (by decide) ?_
  exact g_zret C dX8_isLetter_17 (Or.inl rfl) (hR _ (tt_some T))

noncomputable def f8_isLetter (x0 : Int32) : Option (Int32) :=
  if x0 < 97 then (f8_isLetter_16) else (if 122 < x0 then (f8_isLetter_16) else (some 1))
set_option maxRecDepth 100000 in
set_option maxHeartbeats 4000000 in
theorem k_f8_isLetter {x : Mx} {l : Launch} {post0 : Option Value → Hp → Prop} (C : Cx ΛC x l RX8 cX8_isLetter rm_f8_isLetter (some .boolean) 1 post0) {K : Int32 → Prop} (x0 : Int32) (h : Hp) (hR : ∀ v : Int32, K v → post0 (some (.int v)) h) (T : Tt (f8_isLetter x0) K) : G ΛC x 0 [(0, .int x0)] [] h := by
  refine g_iload_n (q := 0) C dX8_isLetter_0 rfl rfl ?_
  refine g_bipush (v := 97) C dX8_isLetter_1 (by decide) ?_
  refine g_icmp_lt (tgt := 16) C dX8_isLetter_3 (by decide) (fun c1 => ?_) (fun c1 => ?_)
  · have T := tt_t T c1
    refine g_sub [] rfl ?_
    exact k_f8_isLetter_16 C h hR T
  · have T := tt_f T c1
    refine g_iload_n (q := 0) C dX8_isLetter_6 rfl rfl ?_
    refine g_bipush (v := 122) C dX8_isLetter_7 (by decide) ?_
    refine g_icmp_gt (tgt := 16) C dX8_isLetter_9 (by decide) (fun c2 => ?_) (fun c2 => ?_)
    · have T := tt_t T c2
      refine g_sub [] rfl ?_
      exact k_f8_isLetter_16 C h hR T
    · have T := tt_f T c2
      refine g_iconst (v := 1) C dX8_isLetter_12 (by decide) ?_
      refine g_goto (tgt := 17) C dX8_isLetter_13 (by decide) ?_
      exact g_zret C dX8_isLetter_17 (Or.inr rfl) (hR _ (tt_some T))

theorem ok_f8_isLetter {l : Launch} {K : Int32 → Prop} (x0 : Int32) (h : Hp) (T : Tt (f8_isLetter x0) K) : Ok ΛC l yX8_isLetter cX8_isLetter 1 (some .boolean) rm_f8_isLetter [.int x0] h (PIs K h) :=
  Ok.of RX8 rfl (by decide) ⟨rfl, rfl⟩ (Nat.le_of_ble_eq_true rfl) (fun x C => k_f8_isLetter C x0 h (fun v q => ⟨v, rfl, rfl, q⟩) T)

abbrev rm_f8_takeWord : Room := { frames := 1, cells := 0, slots := 0, locals := 20 }
noncomputable def f8_takeWord_90 (s0 : Int32) (h : Hp) : Option (Hp) :=
  lt (wI h 1 5 s0) fun h3 => some (h3)
set_option maxRecDepth 100000 in
set_option maxHeartbeats 4000000 in
theorem k_f8_takeWord_90 {x : Mx} {l : Launch} {post0 : Option Value → Hp → Prop} (C : Cx ΛC x l RX8 cX8_takeWord rm_f8_takeWord none 2 post0) {K : Hp → Prop} (s0 : Int32) (h : Hp) (hR : ∀ h : Hp, K h → post0 none h) (T : Tt (f8_takeWord_90 s0 h) K) : G ΛC x 90 [] [.int s0, .ref 1] h := by
  obtain ⟨h3, eh3, T⟩ := tt_lt T
  refine g_putI (k := 5) C dX8_takeWord_90 (hpC rfl rfl) rfl fp_X8_34 rfl eh3 ?_
  exact g_vret C dX8_takeWord_93 (hR _ (tt_some T))

noncomputable def f8_takeWord_78 (x1 : Int32) (h : Hp) : Option (Hp) :=
  if x1 ≤ 6 then (f8_takeWord_90 1 h) else (f8_takeWord_90 4 h)
set_option maxRecDepth 100000 in
set_option maxHeartbeats 4000000 in
theorem k_f8_takeWord_78 {x : Mx} {l : Launch} {post0 : Option Value → Hp → Prop} (C : Cx ΛC x l RX8 cX8_takeWord rm_f8_takeWord none 2 post0) {K : Hp → Prop} (x1 : Int32) (h : Hp) (hR : ∀ h : Hp, K h → post0 none h) (T : Tt (f8_takeWord_78 x1 h) K) : G ΛC x 78 [(0, .ref 1), (1, .int x1)] [] h := by
  refine g_aload_n (q := 0) C dX8_takeWord_78 rfl rfl ?_
  refine g_iload_n (q := 1) C dX8_takeWord_79 rfl rfl ?_
  refine g_bipush (v := 6) C dX8_takeWord_80 (by decide) ?_
  refine g_icmp_le (tgt := 89) C dX8_takeWord_82 (by decide) (fun c2 => ?_) (fun c2 => ?_)
  · have T := tt_t T c2
    refine g_iconst (v := 1) C dX8_takeWord_89 (by decide) ?_
    refine g_sub [] rfl ?_
    exact k_f8_takeWord_90 C 1 h hR T
  · have T := tt_f T c2
    refine g_iconst (v := 4) C dX8_takeWord_85 (by decide) ?_
    refine g_goto (tgt := 90) C dX8_takeWord_86 (by decide) ?_
    refine g_sub [] rfl ?_
    exact k_f8_takeWord_90 C 4 h hR T

noncomputable def f8_takeWord_62 (x1 : Int32) (h : Hp) : Option ((Int32 × Hp) ⊕ (Hp)) :=
  lt (wI h 1 3 ((h.1 1 3) + 1)) fun h8 => some (.inl (x1 + 1, h8))
set_option maxRecDepth 100000 in
set_option maxHeartbeats 4000000 in
theorem k_f8_takeWord_62 {x : Mx} {l : Launch} {post0 : Option Value → Hp → Prop} (C : Cx ΛC x l RX8 cX8_takeWord rm_f8_takeWord none 2 post0) {K : (Int32 × Hp) ⊕ (Hp) → Prop} (x1 : Int32) (h : Hp) (hR : ∀ h : Hp, K (.inr h) → post0 none h) (hL2 : ∀ (x1 : Int32) (h : Hp), K (.inl (x1, h)) → G ΛC x 2 [(0, .ref 1), (1, .int x1)] [] h) (T : Tt (f8_takeWord_62 x1 h) K) : G ΛC x 62 [(0, .ref 1), (1, .int x1)] [] h := by
  refine g_iinc (v := x1 + 1) (q := 1) (L' := [(1, .int (x1 + 1)), (0, .ref 1)]) C dX8_takeWord_62 rfl (by first | rfl | exact congrArg _ (by decide)) (by decide) rfl ?_
  refine g_aload_n (q := 1) C dX8_takeWord_65 rfl rfl ?_
  refine g_dup C dX8_takeWord_66 rfl ?_
  refine g_getI (k := 3) C dX8_takeWord_67 (hpC rfl rfl) rfl fl_X8_28 rfl ?_
  refine g_iconst (v := 1) C dX8_takeWord_70 (by decide) ?_
  refine g_iadd C dX8_takeWord_71 ?_
  obtain ⟨h8, eh8, T⟩ := tt_lt T
  refine g_putI (k := 3) C dX8_takeWord_72 (hpC rfl rfl) rfl fp_X8_28 rfl eh8 ?_
  refine g_goto (tgt := 2) C dX8_takeWord_75 (by decide) ?_
  refine g_sub [1, 0] rfl ?_
  exact hL2 _ _ (tt_some T)

noncomputable def f8_takeWord_2_s (x1 : Int32) (h : Hp) : Option ((Int32 × Hp) ⊕ (Hp)) :=
  if h.1 1 2 ≤ h.1 1 3 then ((f8_takeWord_78 x1 h).map (fun z => .inr (z))) else (gd (inb (h.1 1 3) 700) <| (f8_isLetter (h.1 2 (ix (h.1 1 3)))).bind fun r5 => if r5 = 0 then ((f8_takeWord_78 x1 h).map (fun z => .inr (z))) else (if 6 ≤ x1 then (f8_takeWord_62 x1 h) else (gd (inb (h.1 1 3) 700) <| lt (wI h 1 6 ((h.1 1 6) ||| (((h.1 2 (ix (h.1 1 3))) - 96) <<< ((25 - (5 * x1)) &&& 31)))) fun h10 => f8_takeWord_62 x1 h10)))
set_option maxRecDepth 100000 in
set_option maxHeartbeats 4000000 in
theorem k_f8_takeWord_2_s {x : Mx} {l : Launch} {post0 : Option Value → Hp → Prop} (C : Cx ΛC x l RX8 cX8_takeWord rm_f8_takeWord none 2 post0) {K : (Int32 × Hp) ⊕ (Hp) → Prop} (x1 : Int32) (h : Hp) (hR : ∀ h : Hp, K (.inr h) → post0 none h) (hL2 : ∀ (x1 : Int32) (h : Hp), K (.inl (x1, h)) → G ΛC x 2 [(0, .ref 1), (1, .int x1)] [] h) (T : Tt (f8_takeWord_2_s x1 h) K) : G ΛC x 2 [(0, .ref 1), (1, .int x1)] [] h := by
  refine g_aload_n (q := 0) C dX8_takeWord_2 rfl rfl ?_
  refine g_getI (k := 3) C dX8_takeWord_3 (hpC rfl rfl) rfl fl_X8_28 rfl ?_
  refine g_aload_n (q := 0) C dX8_takeWord_6 rfl rfl ?_
  refine g_getI (k := 2) C dX8_takeWord_7 (hpC rfl rfl) rfl fl_X8_25 rfl ?_
  refine g_icmp_ge (tgt := 78) C dX8_takeWord_10 (by decide) (fun c1 => ?_) (fun c1 => ?_)
  · have T := tt_t T c1
    exact k_f8_takeWord_78 C x1 h hR (tt_map T)
  · have T := tt_f T c1
    refine g_aload_n (q := 0) C dX8_takeWord_13 rfl rfl ?_
    refine g_getF (k := 0) (q := 2) C dX8_takeWord_14 (hpC rfl rfl) rfl fl_X8_9 rfl rfl ?_
    refine g_aload_n (q := 0) C dX8_takeWord_17 rfl rfl ?_
    refine g_getI (k := 3) C dX8_takeWord_18 (hpC rfl rfl) rfl fl_X8_28 rfl ?_
    obtain ⟨g4, T⟩ := tt_gd T
    refine g_bald C dX8_takeWord_21 (hpC rfl rfl) rfl (inb_of rfl g4) ?_
    refine g_callS (As := [.int (h.1 2 (ix (h.1 1 3)))]) C dX8_takeWord_22 ml_X8_43 ys_f8_isLetter ⟨rfl, rfl⟩ ⟨Nat.le_of_ble_eq_true rfl, Nat.le_of_ble_eq_true rfl⟩ rfl rfl (Nat.le_of_ble_eq_true rfl) (ok_f8_isLetter (h.1 2 (ix (h.1 1 3))) h (tt_bind T)) ?_
    rintro _ _ ⟨r5, rfl, rfl, T⟩
    show G ΛC x 25 [(0, .ref 1), (1, .int x1)] [.int r5] h
    refine g_if_eq (tgt := 78) C dX8_takeWord_25 (by decide) (fun c6 => ?_) (fun c6 => ?_)
    · have T := tt_t T c6
      exact k_f8_takeWord_78 C x1 h hR (tt_map T)
    · have T := tt_f T c6
      refine g_iload_n (q := 1) C dX8_takeWord_28 rfl rfl ?_
      refine g_bipush (v := 6) C dX8_takeWord_29 (by decide) ?_
      refine g_icmp_ge (tgt := 62) C dX8_takeWord_31 (by decide) (fun c7 => ?_) (fun c7 => ?_)
      · have T := tt_t T c7
        exact k_f8_takeWord_62 C x1 h hR hL2 T
      · have T := tt_f T c7
        refine g_aload_n (q := 0) C dX8_takeWord_34 rfl rfl ?_
        refine g_dup C dX8_takeWord_35 rfl ?_
        refine g_getI (k := 6) C dX8_takeWord_36 (hpC rfl rfl) rfl fl_X8_37 rfl ?_
        refine g_aload_n (q := 0) C dX8_takeWord_39 rfl rfl ?_
        refine g_getF (k := 0) (q := 2) C dX8_takeWord_40 (hpC rfl rfl) rfl fl_X8_9 rfl rfl ?_
        refine g_aload_n (q := 0) C dX8_takeWord_43 rfl rfl ?_
        refine g_getI (k := 3) C dX8_takeWord_44 (hpC rfl rfl) rfl fl_X8_28 rfl ?_
        obtain ⟨g9, T⟩ := tt_gd T
        refine g_bald C dX8_takeWord_47 (hpC rfl rfl) rfl (inb_of rfl g9) ?_
        refine g_bipush (v := 96) C dX8_takeWord_48 (by decide) ?_
        refine g_isub C dX8_takeWord_50 ?_
        refine g_bipush (v := 25) C dX8_takeWord_51 (by decide) ?_
        refine g_iconst (v := 5) C dX8_takeWord_53 (by decide) ?_
        refine g_iload_n (q := 1) C dX8_takeWord_54 rfl rfl ?_
        refine g_imul C dX8_takeWord_55 ?_
        refine g_isub C dX8_takeWord_56 ?_
        refine g_ishl C dX8_takeWord_57 ?_
        refine g_ior C dX8_takeWord_58 ?_
        obtain ⟨h10, eh10, T⟩ := tt_lt T
        refine g_putI (k := 6) C dX8_takeWord_59 (hpC rfl rfl) rfl fp_X8_37 rfl eh10 ?_
        exact k_f8_takeWord_62 C x1 h10 hR hL2 T

noncomputable def f8_takeWord_2 (x1 : Int32) (h : Hp) : Option (Hp) := lp (fun z : Int32 × Hp => f8_takeWord_2_s z.1 z.2) (x1, h)
theorem k_f8_takeWord_2 {x : Mx} {l : Launch} {post0 : Option Value → Hp → Prop} (C : Cx ΛC x l RX8 cX8_takeWord rm_f8_takeWord none 2 post0) {K : Hp → Prop} (x1 : Int32) (h : Hp) (hR : ∀ h : Hp, K h → post0 none h) (T : Tt (f8_takeWord_2 x1 h) K) : G ΛC x 2 [(0, .ref 1), (1, .int x1)] [] h :=
  lp_ind (f := fun z : Int32 × Hp => f8_takeWord_2_s z.1 z.2) (P := fun z : Int32 × Hp => G ΛC x 2 [(0, .ref 1), (1, .int z.1)] [] z.2) (K := K) (fun z T => k_f8_takeWord_2_s C (K := KS (fun z : Int32 × Hp => G ΛC x 2 [(0, .ref 1), (1, .int z.1)] [] z.2) K) z.1 z.2 hR (fun _ _ q => q) T) (x1, h) T
noncomputable def f8_takeWord (h : Hp) : Option (Hp) :=
  f8_takeWord_2 0 h
set_option maxRecDepth 100000 in
set_option maxHeartbeats 4000000 in
theorem k_f8_takeWord {x : Mx} {l : Launch} {post0 : Option Value → Hp → Prop} (C : Cx ΛC x l RX8 cX8_takeWord rm_f8_takeWord none 2 post0) {K : Hp → Prop} (h : Hp) (hR : ∀ h : Hp, K h → post0 none h) (T : Tt (f8_takeWord h) K) : G ΛC x 0 [(0, .ref 1)] [] h := by
  refine g_iconst (v := 0) C dX8_takeWord_0 (by decide) ?_
  refine g_istore_n (L' := [(1, .int 0), (0, .ref 1)]) C dX8_takeWord_1 rfl (by decide) rfl ?_
  refine g_sub [1, 0] rfl ?_
  exact k_f8_takeWord_2 C 0 h hR T

theorem ok_f8_takeWord {l : Launch} {K : Hp → Prop} (h : Hp) (T : Tt (f8_takeWord h) K) : Ok ΛC l yX8_takeWord cX8_takeWord 2 none rm_f8_takeWord [.ref 1] h (PVw K) :=
  Ok.of RX8 rfl (by decide) ⟨rfl, rfl⟩ (Nat.le_of_ble_eq_true rfl) (fun x C => k_f8_takeWord C h (fun _ q => ⟨rfl, q⟩) T)

abbrev rm_f8_isDigit : Room := { frames := 0, cells := 0, slots := 0, locals := 0 }
noncomputable def f8_isDigit_16 : Option (Int32) :=
  some 0
set_option maxRecDepth 100000 in
set_option maxHeartbeats 4000000 in
theorem k_f8_isDigit_16 {x : Mx} {l : Launch} {post0 : Option Value → Hp → Prop} (C : Cx ΛC x l RX8 cX8_isDigit rm_f8_isDigit (some .boolean) 1 post0) {K : Int32 → Prop} (h : Hp) (hR : ∀ v : Int32, K v → post0 (some (.int v)) h) (T : Tt (f8_isDigit_16) K) : G ΛC x 16 [] [] h := by
  refine g_iconst (v := 0) C dX8_isDigit_16 (by decide) ?_
  exact g_zret C dX8_isDigit_17 (Or.inl rfl) (hR _ (tt_some T))

noncomputable def f8_isDigit (x0 : Int32) : Option (Int32) :=
  if x0 < 48 then (f8_isDigit_16) else (if 57 < x0 then (f8_isDigit_16) else (some 1))
set_option maxRecDepth 100000 in
set_option maxHeartbeats 4000000 in
theorem k_f8_isDigit {x : Mx} {l : Launch} {post0 : Option Value → Hp → Prop} (C : Cx ΛC x l RX8 cX8_isDigit rm_f8_isDigit (some .boolean) 1 post0) {K : Int32 → Prop} (x0 : Int32) (h : Hp) (hR : ∀ v : Int32, K v → post0 (some (.int v)) h) (T : Tt (f8_isDigit x0) K) : G ΛC x 0 [(0, .int x0)] [] h := by
  refine g_iload_n (q := 0) C dX8_isDigit_0 rfl rfl ?_
  refine g_bipush (v := 48) C dX8_isDigit_1 (by decide) ?_
  refine g_icmp_lt (tgt := 16) C dX8_isDigit_3 (by decide) (fun c1 => ?_) (fun c1 => ?_)
  · have T := tt_t T c1
    refine g_sub [] rfl ?_
    exact k_f8_isDigit_16 C h hR T
  · have T := tt_f T c1
    refine g_iload_n (q := 0) C dX8_isDigit_6 rfl rfl ?_
    refine g_bipush (v := 57) C dX8_isDigit_7 (by decide) ?_
    refine g_icmp_gt (tgt := 16) C dX8_isDigit_9 (by decide) (fun c2 => ?_) (fun c2 => ?_)
    · have T := tt_t T c2
      refine g_sub [] rfl ?_
      exact k_f8_isDigit_16 C h hR T
    · have T := tt_f T c2
      refine g_iconst (v := 1) C dX8_isDigit_12 (by decide) ?_
      refine g_goto (tgt := 17) C dX8_isDigit_13 (by decide) ?_
      exact g_zret C dX8_isDigit_17 (Or.inr rfl) (hR _ (tt_some T))

theorem ok_f8_isDigit {l : Launch} {K : Int32 → Prop} (x0 : Int32) (h : Hp) (T : Tt (f8_isDigit x0) K) : Ok ΛC l yX8_isDigit cX8_isDigit 1 (some .boolean) rm_f8_isDigit [.int x0] h (PIs K h) :=
  Ok.of RX8 rfl (by decide) ⟨rfl, rfl⟩ (Nat.le_of_ble_eq_true rfl) (fun x C => k_f8_isDigit C x0 h (fun v q => ⟨v, rfl, rfl, q⟩) T)

abbrev rm_f8_takeDigits : Room := { frames := 1, cells := 0, slots := 0, locals := 21 }
noncomputable def f8_takeDigits_5_s (h : Hp) : Option ((Hp) ⊕ (Hp)) :=
  if h.1 1 2 ≤ h.1 1 3 then (some (.inr (h))) else (gd (inb (h.1 1 3) 700) <| (f8_isDigit (h.1 2 (ix (h.1 1 3)))).bind fun r4 => if r4 = 0 then (some (.inr (h))) else (gd (inb (h.1 1 3) 700) <| lt (wI h 1 6 (if (((h.1 1 6) * 10) + (h.1 2 (ix (h.1 1 3)))) - 48 < 100000 then (((h.1 1 6) * 10) + (h.1 2 (ix (h.1 1 3)))) - 48 else 100000 : Int32)) fun h7 => lt (wI h7 1 3 ((h7.1 1 3) + 1)) fun h8 => some (.inl h8)))
set_option maxRecDepth 100000 in
set_option maxHeartbeats 4000000 in
theorem k_f8_takeDigits_5_s {x : Mx} {l : Launch} {post0 : Option Value → Hp → Prop} (C : Cx ΛC x l RX8 cX8_takeDigits rm_f8_takeDigits none 1 post0) {K : (Hp) ⊕ (Hp) → Prop} (h : Hp) (hR : ∀ h : Hp, K (.inr h) → post0 none h) (hL5 : ∀ (h : Hp), K (.inl h) → G ΛC x 5 [(0, .ref 1)] [] h) (T : Tt (f8_takeDigits_5_s h) K) : G ΛC x 5 [(0, .ref 1)] [] h := by
  refine g_aload_n (q := 0) C dX8_takeDigits_5 rfl rfl ?_
  refine g_getI (k := 3) C dX8_takeDigits_6 (hpC rfl rfl) rfl fl_X8_28 rfl ?_
  refine g_aload_n (q := 0) C dX8_takeDigits_9 rfl rfl ?_
  refine g_getI (k := 2) C dX8_takeDigits_10 (hpC rfl rfl) rfl fl_X8_25 rfl ?_
  refine g_icmp_ge (tgt := 73) C dX8_takeDigits_13 (by decide) (fun c2 => ?_) (fun c2 => ?_)
  · have T := tt_t T c2
    exact g_vret C dX8_takeDigits_73 (hR _ (tt_some T))
  · have T := tt_f T c2
    refine g_aload_n (q := 0) C dX8_takeDigits_16 rfl rfl ?_
    refine g_getF (k := 0) (q := 2) C dX8_takeDigits_17 (hpC rfl rfl) rfl fl_X8_9 rfl rfl ?_
    refine g_aload_n (q := 0) C dX8_takeDigits_20 rfl rfl ?_
    refine g_getI (k := 3) C dX8_takeDigits_21 (hpC rfl rfl) rfl fl_X8_28 rfl ?_
    obtain ⟨g3, T⟩ := tt_gd T
    refine g_bald C dX8_takeDigits_24 (hpC rfl rfl) rfl (inb_of rfl g3) ?_
    refine g_callS (As := [.int (h.1 2 (ix (h.1 1 3)))]) C dX8_takeDigits_25 ml_X8_50 ys_f8_isDigit ⟨rfl, rfl⟩ ⟨Nat.le_of_ble_eq_true rfl, Nat.le_of_ble_eq_true rfl⟩ rfl rfl (Nat.le_of_ble_eq_true rfl) (ok_f8_isDigit (h.1 2 (ix (h.1 1 3))) h (tt_bind T)) ?_
    rintro _ _ ⟨r4, rfl, rfl, T⟩
    show G ΛC x 28 [(0, .ref 1)] [.int r4] h
    refine g_if_eq (tgt := 73) C dX8_takeDigits_28 (by decide) (fun c5 => ?_) (fun c5 => ?_)
    · have T := tt_t T c5
      exact g_vret C dX8_takeDigits_73 (hR _ (tt_some T))
    · have T := tt_f T c5
      refine g_aload_n (q := 0) C dX8_takeDigits_31 rfl rfl ?_
      refine g_ldc (v := 100000) C dX8_takeDigits_32 kc_X8_59 ?_
      refine g_aload_n (q := 0) C dX8_takeDigits_34 rfl rfl ?_
      refine g_getI (k := 6) C dX8_takeDigits_35 (hpC rfl rfl) rfl fl_X8_37 rfl ?_
      refine g_bipush (v := 10) C dX8_takeDigits_38 (by decide) ?_
      refine g_imul C dX8_takeDigits_40 ?_
      refine g_aload_n (q := 0) C dX8_takeDigits_41 rfl rfl ?_
      refine g_getF (k := 0) (q := 2) C dX8_takeDigits_42 (hpC rfl rfl) rfl fl_X8_9 rfl rfl ?_
      refine g_aload_n (q := 0) C dX8_takeDigits_45 rfl rfl ?_
      refine g_getI (k := 3) C dX8_takeDigits_46 (hpC rfl rfl) rfl fl_X8_28 rfl ?_
      obtain ⟨g6, T⟩ := tt_gd T
      refine g_bald C dX8_takeDigits_49 (hpC rfl rfl) rfl (inb_of rfl g6) ?_
      refine g_iadd C dX8_takeDigits_50 ?_
      refine g_bipush (v := 48) C dX8_takeDigits_51 (by decide) ?_
      refine g_isub C dX8_takeDigits_53 ?_
      refine g_mmin C dX8_takeDigits_54 mm_X8_19 ms_min mi_math mc_min (Nat.le_of_ble_eq_true rfl) (Nat.le_of_ble_eq_true rfl) ?_
      obtain ⟨h7, eh7, T⟩ := tt_lt T
      refine g_putI (k := 6) C dX8_takeDigits_57 (hpC rfl rfl) rfl fp_X8_37 rfl eh7 ?_
      refine g_aload_n (q := 0) C dX8_takeDigits_60 rfl rfl ?_
      refine g_dup C dX8_takeDigits_61 rfl ?_
      refine g_getI (k := 3) C dX8_takeDigits_62 (hpC rfl rfl) rfl fl_X8_28 rfl ?_
      refine g_iconst (v := 1) C dX8_takeDigits_65 (by decide) ?_
      refine g_iadd C dX8_takeDigits_66 ?_
      obtain ⟨h8, eh8, T⟩ := tt_lt T
      refine g_putI (k := 3) C dX8_takeDigits_67 (hpC rfl rfl) rfl fp_X8_28 rfl eh8 ?_
      refine g_goto (tgt := 5) C dX8_takeDigits_70 (by decide) ?_
      exact hL5 _ (tt_some T)

noncomputable def f8_takeDigits_5 (h : Hp) : Option (Hp) := lp (fun z : Hp => f8_takeDigits_5_s z) h
theorem k_f8_takeDigits_5 {x : Mx} {l : Launch} {post0 : Option Value → Hp → Prop} (C : Cx ΛC x l RX8 cX8_takeDigits rm_f8_takeDigits none 1 post0) {K : Hp → Prop} (h : Hp) (hR : ∀ h : Hp, K h → post0 none h) (T : Tt (f8_takeDigits_5 h) K) : G ΛC x 5 [(0, .ref 1)] [] h :=
  lp_ind (f := fun z : Hp => f8_takeDigits_5_s z) (P := fun z : Hp => G ΛC x 5 [(0, .ref 1)] [] z) (K := K) (fun z T => k_f8_takeDigits_5_s C (K := KS (fun z : Hp => G ΛC x 5 [(0, .ref 1)] [] z) K) z hR (fun _ q => q) T) h T
noncomputable def f8_takeDigits (h : Hp) : Option (Hp) :=
  lt (wI h 1 5 2) fun h1 => f8_takeDigits_5 h1
set_option maxRecDepth 100000 in
set_option maxHeartbeats 4000000 in
theorem k_f8_takeDigits {x : Mx} {l : Launch} {post0 : Option Value → Hp → Prop} (C : Cx ΛC x l RX8 cX8_takeDigits rm_f8_takeDigits none 1 post0) {K : Hp → Prop} (h : Hp) (hR : ∀ h : Hp, K h → post0 none h) (T : Tt (f8_takeDigits h) K) : G ΛC x 0 [(0, .ref 1)] [] h := by
  refine g_aload_n (q := 0) C dX8_takeDigits_0 rfl rfl ?_
  refine g_iconst (v := 2) C dX8_takeDigits_1 (by decide) ?_
  obtain ⟨h1, eh1, T⟩ := tt_lt T
  refine g_putI (k := 5) C dX8_takeDigits_2 (hpC rfl rfl) rfl fp_X8_34 rfl eh1 ?_
  exact k_f8_takeDigits_5 C h1 hR T

theorem ok_f8_takeDigits {l : Launch} {K : Hp → Prop} (h : Hp) (T : Tt (f8_takeDigits h) K) : Ok ΛC l yX8_takeDigits cX8_takeDigits 1 none rm_f8_takeDigits [.ref 1] h (PVw K) :=
  Ok.of RX8 rfl (by decide) ⟨rfl, rfl⟩ (Nat.le_of_ble_eq_true rfl) (fun x C => k_f8_takeDigits C h (fun _ q => ⟨rfl, q⟩) T)

abbrev rm_f8_signOf : Room := { frames := 0, cells := 0, slots := 0, locals := 0 }
noncomputable def f8_signOf (x0 : Int32) : Option (Int32) :=
  if x0 = 40 then (some 21) else if x0 = 41 then (some 22) else if x0 = 42 then (some 19) else if x0 = 43 then (some 17) else if x0 = 44 then (some (-1)) else if x0 = 45 then (some 18) else if x0 = 46 then (some (-1)) else if x0 = 47 then (some 20) else if x0 = 48 then (some (-1)) else if x0 = 49 then (some (-1)) else if x0 = 50 then (some (-1)) else if x0 = 51 then (some (-1)) else if x0 = 52 then (some (-1)) else if x0 = 53 then (some (-1)) else if x0 = 54 then (some (-1)) else if x0 = 55 then (some (-1)) else if x0 = 56 then (some (-1)) else if x0 = 57 then (some (-1)) else if x0 = 58 then (some (-1)) else if x0 = 59 then (some 23) else if x0 = 60 then (some 11) else if x0 = 61 then (some 13) else if x0 = 62 then (some 16) else (some (-1))
set_option maxRecDepth 100000 in
set_option maxHeartbeats 4000000 in
theorem k_f8_signOf {x : Mx} {l : Launch} {post0 : Option Value → Hp → Prop} (C : Cx ΛC x l RX8 cX8_signOf rm_f8_signOf (some .int) 1 post0) {K : Int32 → Prop} (x0 : Int32) (h : Hp) (hR : ∀ v : Int32, K v → post0 (some (.int v)) h) (T : Tt (f8_signOf x0) K) : G ΛC x 0 [(0, .int x0)] [] h := by
  refine g_iload_n (q := 0) C dX8_signOf_0 rfl rfl ?_
  by_cases c1 : x0 = 40
  · have T := tt_t T c1
    refine g_tableIn (tgt := 111) C dX8_signOf_1 (by rw [c1]; decide) (by rw [c1]; decide) (by rw [c1]; rfl) (by decide) ?_
    refine g_bipush (v := 21) C dX8_signOf_111 (by decide) ?_
    exact g_iret C dX8_signOf_113 (hR _ (tt_some T))
  · have T := tt_f T c1
    by_cases c2 : x0 = 41
    · have T := tt_t T c2
      refine g_tableIn (tgt := 114) C dX8_signOf_1 (by rw [c2]; decide) (by rw [c2]; decide) (by rw [c2]; rfl) (by decide) ?_
      refine g_bipush (v := 22) C dX8_signOf_114 (by decide) ?_
      exact g_iret C dX8_signOf_116 (hR _ (tt_some T))
    · have T := tt_f T c2
      by_cases c3 : x0 = 42
      · have T := tt_t T c3
        refine g_tableIn (tgt := 123) C dX8_signOf_1 (by rw [c3]; decide) (by rw [c3]; decide) (by rw [c3]; rfl) (by decide) ?_
        refine g_bipush (v := 19) C dX8_signOf_123 (by decide) ?_
        exact g_iret C dX8_signOf_125 (hR _ (tt_some T))
      · have T := tt_f T c3
        by_cases c4 : x0 = 43
        · have T := tt_t T c4
          refine g_tableIn (tgt := 117) C dX8_signOf_1 (by rw [c4]; decide) (by rw [c4]; decide) (by rw [c4]; rfl) (by decide) ?_
          refine g_bipush (v := 17) C dX8_signOf_117 (by decide) ?_
          exact g_iret C dX8_signOf_119 (hR _ (tt_some T))
        · have T := tt_f T c4
          by_cases c5 : x0 = 44
          · have T := tt_t T c5
            refine g_tableIn (tgt := 138) C dX8_signOf_1 (by rw [c5]; decide) (by rw [c5]; decide) (by rw [c5]; rfl) (by decide) ?_
            refine g_iconst (v := (-1)) C dX8_signOf_138 (by decide) ?_
            exact g_iret C dX8_signOf_139 (hR _ (tt_some T))
          · have T := tt_f T c5
            by_cases c6 : x0 = 45
            · have T := tt_t T c6
              refine g_tableIn (tgt := 120) C dX8_signOf_1 (by rw [c6]; decide) (by rw [c6]; decide) (by rw [c6]; rfl) (by decide) ?_
              refine g_bipush (v := 18) C dX8_signOf_120 (by decide) ?_
              exact g_iret C dX8_signOf_122 (hR _ (tt_some T))
            · have T := tt_f T c6
              by_cases c7 : x0 = 46
              · have T := tt_t T c7
                refine g_tableIn (tgt := 138) C dX8_signOf_1 (by rw [c7]; decide) (by rw [c7]; decide) (by rw [c7]; rfl) (by decide) ?_
                refine g_iconst (v := (-1)) C dX8_signOf_138 (by decide) ?_
                exact g_iret C dX8_signOf_139 (hR _ (tt_some T))
              · have T := tt_f T c7
                by_cases c8 : x0 = 47
                · have T := tt_t T c8
                  refine g_tableIn (tgt := 126) C dX8_signOf_1 (by rw [c8]; decide) (by rw [c8]; decide) (by rw [c8]; rfl) (by decide) ?_
                  refine g_bipush (v := 20) C dX8_signOf_126 (by decide) ?_
                  exact g_iret C dX8_signOf_128 (hR _ (tt_some T))
                · have T := tt_f T c8
                  by_cases c9 : x0 = 48
                  · have T := tt_t T c9
                    refine g_tableIn (tgt := 138) C dX8_signOf_1 (by rw [c9]; decide) (by rw [c9]; decide) (by rw [c9]; rfl) (by decide) ?_
                    refine g_iconst (v := (-1)) C dX8_signOf_138 (by decide) ?_
                    exact g_iret C dX8_signOf_139 (hR _ (tt_some T))
                  · have T := tt_f T c9
                    by_cases c10 : x0 = 49
                    · have T := tt_t T c10
                      refine g_tableIn (tgt := 138) C dX8_signOf_1 (by rw [c10]; decide) (by rw [c10]; decide) (by rw [c10]; rfl) (by decide) ?_
                      refine g_iconst (v := (-1)) C dX8_signOf_138 (by decide) ?_
                      exact g_iret C dX8_signOf_139 (hR _ (tt_some T))
                    · have T := tt_f T c10
                      by_cases c11 : x0 = 50
                      · have T := tt_t T c11
                        refine g_tableIn (tgt := 138) C dX8_signOf_1 (by rw [c11]; decide) (by rw [c11]; decide) (by rw [c11]; rfl) (by decide) ?_
                        refine g_iconst (v := (-1)) C dX8_signOf_138 (by decide) ?_
                        exact g_iret C dX8_signOf_139 (hR _ (tt_some T))
                      · have T := tt_f T c11
                        by_cases c12 : x0 = 51
                        · have T := tt_t T c12
                          refine g_tableIn (tgt := 138) C dX8_signOf_1 (by rw [c12]; decide) (by rw [c12]; decide) (by rw [c12]; rfl) (by decide) ?_
                          refine g_iconst (v := (-1)) C dX8_signOf_138 (by decide) ?_
                          exact g_iret C dX8_signOf_139 (hR _ (tt_some T))
                        · have T := tt_f T c12
                          by_cases c13 : x0 = 52
                          · have T := tt_t T c13
                            refine g_tableIn (tgt := 138) C dX8_signOf_1 (by rw [c13]; decide) (by rw [c13]; decide) (by rw [c13]; rfl) (by decide) ?_
                            refine g_iconst (v := (-1)) C dX8_signOf_138 (by decide) ?_
                            exact g_iret C dX8_signOf_139 (hR _ (tt_some T))
                          · have T := tt_f T c13
                            by_cases c14 : x0 = 53
                            · have T := tt_t T c14
                              refine g_tableIn (tgt := 138) C dX8_signOf_1 (by rw [c14]; decide) (by rw [c14]; decide) (by rw [c14]; rfl) (by decide) ?_
                              refine g_iconst (v := (-1)) C dX8_signOf_138 (by decide) ?_
                              exact g_iret C dX8_signOf_139 (hR _ (tt_some T))
                            · have T := tt_f T c14
                              by_cases c15 : x0 = 54
                              · have T := tt_t T c15
                                refine g_tableIn (tgt := 138) C dX8_signOf_1 (by rw [c15]; decide) (by rw [c15]; decide) (by rw [c15]; rfl) (by decide) ?_
                                refine g_iconst (v := (-1)) C dX8_signOf_138 (by decide) ?_
                                exact g_iret C dX8_signOf_139 (hR _ (tt_some T))
                              · have T := tt_f T c15
                                by_cases c16 : x0 = 55
                                · have T := tt_t T c16
                                  refine g_tableIn (tgt := 138) C dX8_signOf_1 (by rw [c16]; decide) (by rw [c16]; decide) (by rw [c16]; rfl) (by decide) ?_
                                  refine g_iconst (v := (-1)) C dX8_signOf_138 (by decide) ?_
                                  exact g_iret C dX8_signOf_139 (hR _ (tt_some T))
                                · have T := tt_f T c16
                                  by_cases c17 : x0 = 56
                                  · have T := tt_t T c17
                                    refine g_tableIn (tgt := 138) C dX8_signOf_1 (by rw [c17]; decide) (by rw [c17]; decide) (by rw [c17]; rfl) (by decide) ?_
                                    refine g_iconst (v := (-1)) C dX8_signOf_138 (by decide) ?_
                                    exact g_iret C dX8_signOf_139 (hR _ (tt_some T))
                                  · have T := tt_f T c17
                                    by_cases c18 : x0 = 57
                                    · have T := tt_t T c18
                                      refine g_tableIn (tgt := 138) C dX8_signOf_1 (by rw [c18]; decide) (by rw [c18]; decide) (by rw [c18]; rfl) (by decide) ?_
                                      refine g_iconst (v := (-1)) C dX8_signOf_138 (by decide) ?_
                                      exact g_iret C dX8_signOf_139 (hR _ (tt_some T))
                                    · have T := tt_f T c18
                                      by_cases c19 : x0 = 58
                                      · have T := tt_t T c19
                                        refine g_tableIn (tgt := 138) C dX8_signOf_1 (by rw [c19]; decide) (by rw [c19]; decide) (by rw [c19]; rfl) (by decide) ?_
                                        refine g_iconst (v := (-1)) C dX8_signOf_138 (by decide) ?_
                                        exact g_iret C dX8_signOf_139 (hR _ (tt_some T))
                                      · have T := tt_f T c19
                                        by_cases c20 : x0 = 59
                                        · have T := tt_t T c20
                                          refine g_tableIn (tgt := 108) C dX8_signOf_1 (by rw [c20]; decide) (by rw [c20]; decide) (by rw [c20]; rfl) (by decide) ?_
                                          refine g_bipush (v := 23) C dX8_signOf_108 (by decide) ?_
                                          exact g_iret C dX8_signOf_110 (hR _ (tt_some T))
                                        · have T := tt_f T c20
                                          by_cases c21 : x0 = 60
                                          · have T := tt_t T c21
                                            refine g_tableIn (tgt := 129) C dX8_signOf_1 (by rw [c21]; decide) (by rw [c21]; decide) (by rw [c21]; rfl) (by decide) ?_
                                            refine g_bipush (v := 11) C dX8_signOf_129 (by decide) ?_
                                            exact g_iret C dX8_signOf_131 (hR _ (tt_some T))
                                          · have T := tt_f T c21
                                            by_cases c22 : x0 = 61
                                            · have T := tt_t T c22
                                              refine g_tableIn (tgt := 132) C dX8_signOf_1 (by rw [c22]; decide) (by rw [c22]; decide) (by rw [c22]; rfl) (by decide) ?_
                                              refine g_bipush (v := 13) C dX8_signOf_132 (by decide) ?_
                                              exact g_iret C dX8_signOf_134 (hR _ (tt_some T))
                                            · have T := tt_f T c22
                                              by_cases c23 : x0 = 62
                                              · have T := tt_t T c23
                                                refine g_tableIn (tgt := 135) C dX8_signOf_1 (by rw [c23]; decide) (by rw [c23]; decide) (by rw [c23]; rfl) (by decide) ?_
                                                refine g_bipush (v := 16) C dX8_signOf_135 (by decide) ?_
                                                exact g_iret C dX8_signOf_137 (hR _ (tt_some T))
                                              · have T := tt_f T c23
                                                have zc1 := ne32 c1
                                                have zc2 := ne32 c2
                                                have zc3 := ne32 c3
                                                have zc4 := ne32 c4
                                                have zc5 := ne32 c5
                                                have zc6 := ne32 c6
                                                have zc7 := ne32 c7
                                                have zc8 := ne32 c8
                                                have zc9 := ne32 c9
                                                have zc10 := ne32 c10
                                                have zc11 := ne32 c11
                                                have zc12 := ne32 c12
                                                have zc13 := ne32 c13
                                                have zc14 := ne32 c14
                                                have zc15 := ne32 c15
                                                have zc16 := ne32 c16
                                                have zc17 := ne32 c17
                                                have zc18 := ne32 c18
                                                have zc19 := ne32 c19
                                                have zc20 := ne32 c20
                                                have zc21 := ne32 c21
                                                have zc22 := ne32 c22
                                                have zc23 := ne32 c23
                                                rw [show ((40 : Int32)).toInt = 40 from by decide] at zc1
                                                rw [show ((41 : Int32)).toInt = 41 from by decide] at zc2
                                                rw [show ((42 : Int32)).toInt = 42 from by decide] at zc3
                                                rw [show ((43 : Int32)).toInt = 43 from by decide] at zc4
                                                rw [show ((44 : Int32)).toInt = 44 from by decide] at zc5
                                                rw [show ((45 : Int32)).toInt = 45 from by decide] at zc6
                                                rw [show ((46 : Int32)).toInt = 46 from by decide] at zc7
                                                rw [show ((47 : Int32)).toInt = 47 from by decide] at zc8
                                                rw [show ((48 : Int32)).toInt = 48 from by decide] at zc9
                                                rw [show ((49 : Int32)).toInt = 49 from by decide] at zc10
                                                rw [show ((50 : Int32)).toInt = 50 from by decide] at zc11
                                                rw [show ((51 : Int32)).toInt = 51 from by decide] at zc12
                                                rw [show ((52 : Int32)).toInt = 52 from by decide] at zc13
                                                rw [show ((53 : Int32)).toInt = 53 from by decide] at zc14
                                                rw [show ((54 : Int32)).toInt = 54 from by decide] at zc15
                                                rw [show ((55 : Int32)).toInt = 55 from by decide] at zc16
                                                rw [show ((56 : Int32)).toInt = 56 from by decide] at zc17
                                                rw [show ((57 : Int32)).toInt = 57 from by decide] at zc18
                                                rw [show ((58 : Int32)).toInt = 58 from by decide] at zc19
                                                rw [show ((59 : Int32)).toInt = 59 from by decide] at zc20
                                                rw [show ((60 : Int32)).toInt = 60 from by decide] at zc21
                                                rw [show ((61 : Int32)).toInt = 61 from by decide] at zc22
                                                rw [show ((62 : Int32)).toInt = 62 from by decide] at zc23
                                                refine g_tableOut (tgt := 138) C dX8_signOf_1 (by omega) (by decide) ?_
                                                refine g_iconst (v := (-1)) C dX8_signOf_138 (by decide) ?_
                                                exact g_iret C dX8_signOf_139 (hR _ (tt_some T))

theorem ok_f8_signOf {l : Launch} {K : Int32 → Prop} (x0 : Int32) (h : Hp) (T : Tt (f8_signOf x0) K) : Ok ΛC l yX8_signOf cX8_signOf 1 (some .int) rm_f8_signOf [.int x0] h (PIs K h) :=
  Ok.of RX8 rfl (by decide) ⟨rfl, rfl⟩ (Nat.le_of_ble_eq_true rfl) (fun x C => k_f8_signOf C x0 h (fun v q => ⟨v, rfl, rfl, q⟩) T)

abbrev rm_f8_takeSign : Room := { frames := 1, cells := 0, slots := 0, locals := 20 }
noncomputable def f8_takeSign_166 (s0 : Int32) (h : Hp) : Option (Hp) :=
  lt (wI h 1 5 s0) fun h11 => some (h11)
set_option maxRecDepth 100000 in
set_option maxHeartbeats 4000000 in
theorem k_f8_takeSign_166 {x : Mx} {l : Launch} {post0 : Option Value → Hp → Prop} (C : Cx ΛC x l RX8 cX8_takeSign rm_f8_takeSign none 3 post0) {K : Hp → Prop} (s0 : Int32) (h : Hp) (hR : ∀ h : Hp, K h → post0 none h) (T : Tt (f8_takeSign_166 s0 h) K) : G ΛC x 166 [] [.int s0, .ref 1] h := by
  obtain ⟨h11, eh11, T⟩ := tt_lt T
  refine g_putI (k := 5) C dX8_takeSign_166 (hpC rfl rfl) rfl fp_X8_34 rfl eh11 ?_
  exact g_vret C dX8_takeSign_169 (hR _ (tt_some T))

noncomputable def f8_takeSign_152 (h : Hp) : Option (Hp) :=
  if h.1 1 6 = (-1) then (f8_takeSign_166 4 h) else (f8_takeSign_166 3 h)
set_option maxRecDepth 100000 in
set_option maxHeartbeats 4000000 in
theorem k_f8_takeSign_152 {x : Mx} {l : Launch} {post0 : Option Value → Hp → Prop} (C : Cx ΛC x l RX8 cX8_takeSign rm_f8_takeSign none 3 post0) {K : Hp → Prop} (h : Hp) (hR : ∀ h : Hp, K h → post0 none h) (T : Tt (f8_takeSign_152 h) K) : G ΛC x 152 [(0, .ref 1)] [] h := by
  refine g_aload_n (q := 0) C dX8_takeSign_152 rfl rfl ?_
  refine g_aload_n (q := 0) C dX8_takeSign_153 rfl rfl ?_
  refine g_getI (k := 6) C dX8_takeSign_154 (hpC rfl rfl) rfl fl_X8_37 rfl ?_
  refine g_iconst (v := (-1)) C dX8_takeSign_157 (by decide) ?_
  refine g_icmp_ne (tgt := 165) C dX8_takeSign_158 (by decide) (fun c10 => ?_) (fun c10 => ?_)
  · have T := tt_f T c10
    refine g_iconst (v := 3) C dX8_takeSign_165 (by decide) ?_
    refine g_sub [] rfl ?_
    exact k_f8_takeSign_166 C 3 h hR T
  · have T := tt_t T c10
    refine g_iconst (v := 4) C dX8_takeSign_161 (by decide) ?_
    refine g_goto (tgt := 166) C dX8_takeSign_162 (by decide) ?_
    refine g_sub [] rfl ?_
    exact k_f8_takeSign_166 C 4 h hR T

noncomputable def f8_takeSign_121 (x2 : Int32) (h : Hp) : Option (Hp) :=
  if h.1 1 6 = 16 then (if x2 = 61 then (lt (wI h 1 6 15) fun h13 => lt (wI h13 1 3 ((h13.1 1 3) + 1)) fun h14 => f8_takeSign_152 h14) else (f8_takeSign_152 h)) else (f8_takeSign_152 h)
set_option maxRecDepth 100000 in
set_option maxHeartbeats 4000000 in
theorem k_f8_takeSign_121 {x : Mx} {l : Launch} {post0 : Option Value → Hp → Prop} (C : Cx ΛC x l RX8 cX8_takeSign rm_f8_takeSign none 3 post0) {K : Hp → Prop} (x2 : Int32) (h : Hp) (hR : ∀ h : Hp, K h → post0 none h) (T : Tt (f8_takeSign_121 x2 h) K) : G ΛC x 121 [(0, .ref 1), (2, .int x2)] [] h := by
  refine g_aload_n (q := 0) C dX8_takeSign_121 rfl rfl ?_
  refine g_getI (k := 6) C dX8_takeSign_122 (hpC rfl rfl) rfl fl_X8_37 rfl ?_
  refine g_bipush (v := 16) C dX8_takeSign_125 (by decide) ?_
  refine g_icmp_ne (tgt := 152) C dX8_takeSign_127 (by decide) (fun c9 => ?_) (fun c9 => ?_)
  · have T := tt_f T c9
    refine g_sub [0] rfl ?_
    exact k_f8_takeSign_152 C h hR T
  · have T := tt_t T c9
    refine g_iload_n (q := 1) C dX8_takeSign_130 rfl rfl ?_
    refine g_bipush (v := 61) C dX8_takeSign_131 (by decide) ?_
    refine g_icmp_ne (tgt := 152) C dX8_takeSign_133 (by decide) (fun c12 => ?_) (fun c12 => ?_)
    · have T := tt_f T c12
      refine g_sub [0] rfl ?_
      exact k_f8_takeSign_152 C h hR T
    · have T := tt_t T c12
      refine g_aload_n (q := 0) C dX8_takeSign_136 rfl rfl ?_
      refine g_bipush (v := 15) C dX8_takeSign_137 (by decide) ?_
      obtain ⟨h13, eh13, T⟩ := tt_lt T
      refine g_putI (k := 6) C dX8_takeSign_139 (hpC rfl rfl) rfl fp_X8_37 rfl eh13 ?_
      refine g_aload_n (q := 0) C dX8_takeSign_142 rfl rfl ?_
      refine g_dup C dX8_takeSign_143 rfl ?_
      refine g_getI (k := 3) C dX8_takeSign_144 (hpC rfl rfl) rfl fl_X8_28 rfl ?_
      refine g_iconst (v := 1) C dX8_takeSign_147 (by decide) ?_
      refine g_iadd C dX8_takeSign_148 ?_
      obtain ⟨h14, eh14, T⟩ := tt_lt T
      refine g_putI (k := 3) C dX8_takeSign_149 (hpC rfl rfl) rfl fp_X8_28 rfl eh14 ?_
      refine g_sub [0] rfl ?_
      exact k_f8_takeSign_152 C h14 hR T

noncomputable def f8_takeSign_87 (x2 : Int32) (h : Hp) : Option (Hp) :=
  if h.1 1 6 = 11 then (if x2 = 61 then (lt (wI h 1 6 12) fun h16 => lt (wI h16 1 3 ((h16.1 1 3) + 1)) fun h17 => f8_takeSign_152 h17) else (f8_takeSign_121 x2 h)) else (f8_takeSign_121 x2 h)
set_option maxRecDepth 100000 in
set_option maxHeartbeats 4000000 in
theorem k_f8_takeSign_87 {x : Mx} {l : Launch} {post0 : Option Value → Hp → Prop} (C : Cx ΛC x l RX8 cX8_takeSign rm_f8_takeSign none 3 post0) {K : Hp → Prop} (x2 : Int32) (h : Hp) (hR : ∀ h : Hp, K h → post0 none h) (T : Tt (f8_takeSign_87 x2 h) K) : G ΛC x 87 [(0, .ref 1), (2, .int x2)] [] h := by
  refine g_aload_n (q := 0) C dX8_takeSign_87 rfl rfl ?_
  refine g_getI (k := 6) C dX8_takeSign_88 (hpC rfl rfl) rfl fl_X8_37 rfl ?_
  refine g_bipush (v := 11) C dX8_takeSign_91 (by decide) ?_
  refine g_icmp_ne (tgt := 121) C dX8_takeSign_93 (by decide) (fun c8 => ?_) (fun c8 => ?_)
  · have T := tt_f T c8
    exact k_f8_takeSign_121 C x2 h hR T
  · have T := tt_t T c8
    refine g_iload_n (q := 1) C dX8_takeSign_96 rfl rfl ?_
    refine g_bipush (v := 61) C dX8_takeSign_97 (by decide) ?_
    refine g_icmp_ne (tgt := 121) C dX8_takeSign_99 (by decide) (fun c15 => ?_) (fun c15 => ?_)
    · have T := tt_f T c15
      exact k_f8_takeSign_121 C x2 h hR T
    · have T := tt_t T c15
      refine g_aload_n (q := 0) C dX8_takeSign_102 rfl rfl ?_
      refine g_bipush (v := 12) C dX8_takeSign_103 (by decide) ?_
      obtain ⟨h16, eh16, T⟩ := tt_lt T
      refine g_putI (k := 6) C dX8_takeSign_105 (hpC rfl rfl) rfl fp_X8_37 rfl eh16 ?_
      refine g_aload_n (q := 0) C dX8_takeSign_108 rfl rfl ?_
      refine g_dup C dX8_takeSign_109 rfl ?_
      refine g_getI (k := 3) C dX8_takeSign_110 (hpC rfl rfl) rfl fl_X8_28 rfl ?_
      refine g_iconst (v := 1) C dX8_takeSign_113 (by decide) ?_
      refine g_iadd C dX8_takeSign_114 ?_
      obtain ⟨h17, eh17, T⟩ := tt_lt T
      refine g_putI (k := 3) C dX8_takeSign_115 (hpC rfl rfl) rfl fp_X8_28 rfl eh17 ?_
      refine g_goto (tgt := 152) C dX8_takeSign_118 (by decide) ?_
      refine g_sub [0] rfl ?_
      exact k_f8_takeSign_152 C h17 hR T

noncomputable def f8_takeSign_44 (x1 : Int32) (s0 : Int32) (h : Hp) : Option (Hp) :=
  (f8_signOf x1).bind fun r5 => lt (wI h 1 6 r5) fun h6 => if h6.1 1 6 = 11 then (if s0 = 62 then (lt (wI h6 1 6 14) fun h19 => lt (wI h19 1 3 ((h19.1 1 3) + 1)) fun h20 => f8_takeSign_152 h20) else (f8_takeSign_87 s0 h6)) else (f8_takeSign_87 s0 h6)
set_option maxRecDepth 100000 in
set_option maxHeartbeats 4000000 in
theorem k_f8_takeSign_44 {x : Mx} {l : Launch} {post0 : Option Value → Hp → Prop} (C : Cx ΛC x l RX8 cX8_takeSign rm_f8_takeSign none 3 post0) {K : Hp → Prop} (x1 : Int32) (s0 : Int32) (h : Hp) (hR : ∀ h : Hp, K h → post0 none h) (T : Tt (f8_takeSign_44 x1 s0 h) K) : G ΛC x 44 [(0, .ref 1), (1, .int x1)] [.int s0] h := by
  refine g_istore_n (L' := [(2, .int s0), (0, .ref 1), (1, .int x1)]) C dX8_takeSign_44 rfl (by decide) rfl ?_
  refine g_aload_n (q := 1) C dX8_takeSign_45 rfl rfl ?_
  refine g_iload_n (q := 2) C dX8_takeSign_46 rfl rfl ?_
  refine g_callS (As := [.int x1]) C dX8_takeSign_47 ml_X8_60 ys_f8_signOf ⟨rfl, rfl⟩ ⟨Nat.le_of_ble_eq_true rfl, Nat.le_of_ble_eq_true rfl⟩ rfl rfl (Nat.le_of_ble_eq_true rfl) (ok_f8_signOf x1 h (tt_bind T)) ?_
  rintro _ _ ⟨r5, rfl, rfl, T⟩
  show G ΛC x 50 [(2, .int s0), (0, .ref 1), (1, .int x1)] [.int r5, .ref 1] h
  obtain ⟨h6, eh6, T⟩ := tt_lt T
  refine g_putI (k := 6) C dX8_takeSign_50 (hpC rfl rfl) rfl fp_X8_37 rfl eh6 ?_
  refine g_aload_n (q := 1) C dX8_takeSign_53 rfl rfl ?_
  refine g_getI (k := 6) C dX8_takeSign_54 (hpC rfl rfl) rfl fl_X8_37 rfl ?_
  refine g_bipush (v := 11) C dX8_takeSign_57 (by decide) ?_
  refine g_icmp_ne (tgt := 87) C dX8_takeSign_59 (by decide) (fun c7 => ?_) (fun c7 => ?_)
  · have T := tt_f T c7
    refine g_sub [1, 0] rfl ?_
    exact k_f8_takeSign_87 C s0 h6 hR T
  · have T := tt_t T c7
    refine g_iload_n (q := 0) C dX8_takeSign_62 rfl rfl ?_
    refine g_bipush (v := 62) C dX8_takeSign_63 (by decide) ?_
    refine g_icmp_ne (tgt := 87) C dX8_takeSign_65 (by decide) (fun c18 => ?_) (fun c18 => ?_)
    · have T := tt_f T c18
      refine g_sub [1, 0] rfl ?_
      exact k_f8_takeSign_87 C s0 h6 hR T
    · have T := tt_t T c18
      refine g_aload_n (q := 1) C dX8_takeSign_68 rfl rfl ?_
      refine g_bipush (v := 14) C dX8_takeSign_69 (by decide) ?_
      obtain ⟨h19, eh19, T⟩ := tt_lt T
      refine g_putI (k := 6) C dX8_takeSign_71 (hpC rfl rfl) rfl fp_X8_37 rfl eh19 ?_
      refine g_aload_n (q := 1) C dX8_takeSign_74 rfl rfl ?_
      refine g_dup C dX8_takeSign_75 rfl ?_
      refine g_getI (k := 3) C dX8_takeSign_76 (hpC rfl rfl) rfl fl_X8_28 rfl ?_
      refine g_iconst (v := 1) C dX8_takeSign_79 (by decide) ?_
      refine g_iadd C dX8_takeSign_80 ?_
      obtain ⟨h20, eh20, T⟩ := tt_lt T
      refine g_putI (k := 3) C dX8_takeSign_81 (hpC rfl rfl) rfl fp_X8_28 rfl eh20 ?_
      refine g_goto (tgt := 152) C dX8_takeSign_84 (by decide) ?_
      refine g_sub [1] rfl ?_
      exact k_f8_takeSign_152 C h20 hR T

noncomputable def f8_takeSign (h : Hp) : Option (Hp) :=
  gd (inb (h.1 1 3) 700) <| lt (h.1 2 (ix (h.1 1 3))) fun v2 => lt (wI h 1 3 ((h.1 1 3) + 1)) fun h3 => if h3.1 1 2 ≤ h3.1 1 3 then (f8_takeSign_44 v2 0 h3) else (gd (inb (h3.1 1 3) 700) <| f8_takeSign_44 v2 (h3.1 2 (ix (h3.1 1 3))) h3)
set_option maxRecDepth 100000 in
set_option maxHeartbeats 4000000 in
theorem k_f8_takeSign {x : Mx} {l : Launch} {post0 : Option Value → Hp → Prop} (C : Cx ΛC x l RX8 cX8_takeSign rm_f8_takeSign none 3 post0) {K : Hp → Prop} (h : Hp) (hR : ∀ h : Hp, K h → post0 none h) (T : Tt (f8_takeSign h) K) : G ΛC x 0 [(0, .ref 1)] [] h := by
  refine g_aload_n (q := 0) C dX8_takeSign_0 rfl rfl ?_
  refine g_getF (k := 0) (q := 2) C dX8_takeSign_1 (hpC rfl rfl) rfl fl_X8_9 rfl rfl ?_
  refine g_aload_n (q := 0) C dX8_takeSign_4 rfl rfl ?_
  refine g_getI (k := 3) C dX8_takeSign_5 (hpC rfl rfl) rfl fl_X8_28 rfl ?_
  obtain ⟨g1, T⟩ := tt_gd T
  refine g_bald C dX8_takeSign_8 (hpC rfl rfl) rfl (inb_of rfl g1) ?_
  obtain ⟨v2, ev2, T⟩ := tt_lt T
  refine g_nameI ev2 ?_
  refine g_istore_n (L' := [(1, .int v2), (0, .ref 1)]) C dX8_takeSign_9 rfl (by decide) rfl ?_
  refine g_aload_n (q := 1) C dX8_takeSign_10 rfl rfl ?_
  refine g_dup C dX8_takeSign_11 rfl ?_
  refine g_getI (k := 3) C dX8_takeSign_12 (hpC rfl rfl) rfl fl_X8_28 rfl ?_
  refine g_iconst (v := 1) C dX8_takeSign_15 (by decide) ?_
  refine g_iadd C dX8_takeSign_16 ?_
  obtain ⟨h3, eh3, T⟩ := tt_lt T
  refine g_putI (k := 3) C dX8_takeSign_17 (hpC rfl rfl) rfl fp_X8_28 rfl eh3 ?_
  refine g_aload_n (q := 1) C dX8_takeSign_20 rfl rfl ?_
  refine g_getI (k := 3) C dX8_takeSign_21 (hpC rfl rfl) rfl fl_X8_28 rfl ?_
  refine g_aload_n (q := 1) C dX8_takeSign_24 rfl rfl ?_
  refine g_getI (k := 2) C dX8_takeSign_25 (hpC rfl rfl) rfl fl_X8_25 rfl ?_
  refine g_icmp_ge (tgt := 43) C dX8_takeSign_28 (by decide) (fun c4 => ?_) (fun c4 => ?_)
  · have T := tt_t T c4
    refine g_iconst (v := 0) C dX8_takeSign_43 (by decide) ?_
    refine g_sub [1, 0] rfl ?_
    exact k_f8_takeSign_44 C v2 0 h3 hR T
  · have T := tt_f T c4
    refine g_aload_n (q := 1) C dX8_takeSign_31 rfl rfl ?_
    refine g_getF (k := 0) (q := 2) C dX8_takeSign_32 (hpC rfl rfl) rfl fl_X8_9 rfl rfl ?_
    refine g_aload_n (q := 1) C dX8_takeSign_35 rfl rfl ?_
    refine g_getI (k := 3) C dX8_takeSign_36 (hpC rfl rfl) rfl fl_X8_28 rfl ?_
    obtain ⟨g21, T⟩ := tt_gd T
    refine g_bald C dX8_takeSign_39 (hpC rfl rfl) rfl (inb_of rfl g21) ?_
    refine g_goto (tgt := 44) C dX8_takeSign_40 (by decide) ?_
    refine g_sub [1, 0] rfl ?_
    exact k_f8_takeSign_44 C v2 (h3.1 2 (ix (h3.1 1 3))) h3 hR T

theorem ok_f8_takeSign {l : Launch} {K : Hp → Prop} (h : Hp) (T : Tt (f8_takeSign h) K) : Ok ΛC l yX8_takeSign cX8_takeSign 3 none rm_f8_takeSign [.ref 1] h (PVw K) :=
  Ok.of RX8 rfl (by decide) ⟨rfl, rfl⟩ (Nat.le_of_ble_eq_true rfl) (fun x C => k_f8_takeSign C h (fun _ q => ⟨rfl, q⟩) T)

abbrev rm_f8_next : Room := { frames := 2, cells := 0, slots := 0, locals := 42 }
noncomputable def f8_next_52 (h : Hp) : Option (Hp) :=
  lt (wI h 1 4 (h.1 1 3)) fun h2 => lt (wI h2 1 6 0) fun h3 => if h3.1 1 3 < h3.1 1 2 then (gd (inb (h3.1 1 3) 700) <| (f8_isLetter (h3.1 2 (ix (h3.1 1 3)))).bind fun r6 => if r6 = 0 then (gd (inb (h3.1 1 3) 700) <| (f8_isDigit (h3.1 2 (ix (h3.1 1 3)))).bind fun r9 => if r9 = 0 then ((f8_takeSign h3).bind fun h11 => some (h11)) else ((f8_takeDigits h3).bind fun h12 => some (h12))) else ((f8_takeWord h3).bind fun h13 => some (h13))) else (lt (wI h3 1 5 0) fun h14 => some (h14))
set_option maxRecDepth 100000 in
set_option maxHeartbeats 4000000 in
theorem k_f8_next_52 {x : Mx} {l : Launch} {post0 : Option Value → Hp → Prop} (C : Cx ΛC x l RX8 cX8_next rm_f8_next none 1 post0) {K : Hp → Prop} (h : Hp) (hR : ∀ h : Hp, K h → post0 none h) (T : Tt (f8_next_52 h) K) : G ΛC x 52 [(0, .ref 1)] [] h := by
  refine g_aload_n (q := 0) C dX8_next_52 rfl rfl ?_
  refine g_aload_n (q := 0) C dX8_next_53 rfl rfl ?_
  refine g_getI (k := 3) C dX8_next_54 (hpC rfl rfl) rfl fl_X8_28 rfl ?_
  obtain ⟨h2, eh2, T⟩ := tt_lt T
  refine g_putI (k := 4) C dX8_next_57 (hpC rfl rfl) rfl fp_X8_40 rfl eh2 ?_
  refine g_aload_n (q := 0) C dX8_next_60 rfl rfl ?_
  refine g_iconst (v := 0) C dX8_next_61 (by decide) ?_
  obtain ⟨h3, eh3, T⟩ := tt_lt T
  refine g_putI (k := 6) C dX8_next_62 (hpC rfl rfl) rfl fp_X8_37 rfl eh3 ?_
  refine g_aload_n (q := 0) C dX8_next_65 rfl rfl ?_
  refine g_getI (k := 3) C dX8_next_66 (hpC rfl rfl) rfl fl_X8_28 rfl ?_
  refine g_aload_n (q := 0) C dX8_next_69 rfl rfl ?_
  refine g_getI (k := 2) C dX8_next_70 (hpC rfl rfl) rfl fl_X8_25 rfl ?_
  refine g_icmp_lt (tgt := 84) C dX8_next_73 (by decide) (fun c4 => ?_) (fun c4 => ?_)
  · have T := tt_t T c4
    refine g_aload_n (q := 0) C dX8_next_84 rfl rfl ?_
    refine g_getF (k := 0) (q := 2) C dX8_next_85 (hpC rfl rfl) rfl fl_X8_9 rfl rfl ?_
    refine g_aload_n (q := 0) C dX8_next_88 rfl rfl ?_
    refine g_getI (k := 3) C dX8_next_89 (hpC rfl rfl) rfl fl_X8_28 rfl ?_
    obtain ⟨g5, T⟩ := tt_gd T
    refine g_bald C dX8_next_92 (hpC rfl rfl) rfl (inb_of rfl g5) ?_
    refine g_callS (As := [.int (h3.1 2 (ix (h3.1 1 3)))]) C dX8_next_93 ml_X8_43 ys_f8_isLetter ⟨rfl, rfl⟩ ⟨Nat.le_of_ble_eq_true rfl, Nat.le_of_ble_eq_true rfl⟩ rfl rfl (Nat.le_of_ble_eq_true rfl) (ok_f8_isLetter (h3.1 2 (ix (h3.1 1 3))) h3 (tt_bind T)) ?_
    rintro _ _ ⟨r6, rfl, rfl, T⟩
    show G ΛC x 96 [(0, .ref 1)] [.int r6] h3
    refine g_if_eq (tgt := 106) C dX8_next_96 (by decide) (fun c7 => ?_) (fun c7 => ?_)
    · have T := tt_t T c7
      refine g_aload_n (q := 0) C dX8_next_106 rfl rfl ?_
      refine g_getF (k := 0) (q := 2) C dX8_next_107 (hpC rfl rfl) rfl fl_X8_9 rfl rfl ?_
      refine g_aload_n (q := 0) C dX8_next_110 rfl rfl ?_
      refine g_getI (k := 3) C dX8_next_111 (hpC rfl rfl) rfl fl_X8_28 rfl ?_
      obtain ⟨g8, T⟩ := tt_gd T
      refine g_bald C dX8_next_114 (hpC rfl rfl) rfl (inb_of rfl g8) ?_
      refine g_callS (As := [.int (h3.1 2 (ix (h3.1 1 3)))]) C dX8_next_115 ml_X8_50 ys_f8_isDigit ⟨rfl, rfl⟩ ⟨Nat.le_of_ble_eq_true rfl, Nat.le_of_ble_eq_true rfl⟩ rfl rfl (Nat.le_of_ble_eq_true rfl) (ok_f8_isDigit (h3.1 2 (ix (h3.1 1 3))) h3 (tt_bind T)) ?_
      rintro _ _ ⟨r9, rfl, rfl, T⟩
      show G ΛC x 118 [(0, .ref 1)] [.int r9] h3
      refine g_if_eq (tgt := 128) C dX8_next_118 (by decide) (fun c10 => ?_) (fun c10 => ?_)
      · have T := tt_t T c10
        refine g_aload_n (q := 0) C dX8_next_128 rfl rfl ?_
        refine g_callV (p := 1) (As := []) C dX8_next_129 ml_X8_56 yv_f8_takeSign ⟨rfl, rfl⟩ ⟨Nat.le_of_ble_eq_true rfl, Nat.le_of_ble_eq_true rfl⟩ (hpC rfl rfl) rfl rfl rfl (Nat.le_of_ble_eq_true rfl) (ok_f8_takeSign h3 (tt_bind T)) ?_
        rintro _ h11 ⟨rfl, T⟩
        show G ΛC x 132 [(0, .ref 1)] [] h11
        exact g_vret C dX8_next_132 (hR _ (tt_some T))
      · have T := tt_f T c10
        refine g_aload_n (q := 0) C dX8_next_121 rfl rfl ?_
        refine g_callV (p := 1) (As := []) C dX8_next_122 ml_X8_53 yv_f8_takeDigits ⟨rfl, rfl⟩ ⟨Nat.le_of_ble_eq_true rfl, Nat.le_of_ble_eq_true rfl⟩ (hpC rfl rfl) rfl rfl rfl (Nat.le_of_ble_eq_true rfl) (ok_f8_takeDigits h3 (tt_bind T)) ?_
        rintro _ h12 ⟨rfl, T⟩
        show G ΛC x 125 [(0, .ref 1)] [] h12
        refine g_goto (tgt := 132) C dX8_next_125 (by decide) ?_
        exact g_vret C dX8_next_132 (hR _ (tt_some T))
    · have T := tt_f T c7
      refine g_aload_n (q := 0) C dX8_next_99 rfl rfl ?_
      refine g_callV (p := 1) (As := []) C dX8_next_100 ml_X8_47 yv_f8_takeWord ⟨rfl, rfl⟩ ⟨Nat.le_of_ble_eq_true rfl, Nat.le_of_ble_eq_true rfl⟩ (hpC rfl rfl) rfl rfl rfl (Nat.le_of_ble_eq_true rfl) (ok_f8_takeWord h3 (tt_bind T)) ?_
      rintro _ h13 ⟨rfl, T⟩
      show G ΛC x 103 [(0, .ref 1)] [] h13
      refine g_goto (tgt := 132) C dX8_next_103 (by decide) ?_
      exact g_vret C dX8_next_132 (hR _ (tt_some T))
  · have T := tt_f T c4
    refine g_aload_n (q := 0) C dX8_next_76 rfl rfl ?_
    refine g_iconst (v := 0) C dX8_next_77 (by decide) ?_
    obtain ⟨h14, eh14, T⟩ := tt_lt T
    refine g_putI (k := 5) C dX8_next_78 (hpC rfl rfl) rfl fp_X8_34 rfl eh14 ?_
    refine g_goto (tgt := 132) C dX8_next_81 (by decide) ?_
    exact g_vret C dX8_next_132 (hR _ (tt_some T))

noncomputable def f8_next_39 (h : Hp) : Option ((Hp) ⊕ (Hp)) :=
  lt (wI h 1 3 ((h.1 1 3) + 1)) fun h17 => some (.inl h17)
set_option maxRecDepth 100000 in
set_option maxHeartbeats 4000000 in
theorem k_f8_next_39 {x : Mx} {l : Launch} {post0 : Option Value → Hp → Prop} (C : Cx ΛC x l RX8 cX8_next rm_f8_next none 1 post0) {K : (Hp) ⊕ (Hp) → Prop} (h : Hp) (hR : ∀ h : Hp, K (.inr h) → post0 none h) (hL0 : ∀ (h : Hp), K (.inl h) → G ΛC x 0 [(0, .ref 1)] [] h) (T : Tt (f8_next_39 h) K) : G ΛC x 39 [(0, .ref 1)] [] h := by
  refine g_aload_n (q := 0) C dX8_next_39 rfl rfl ?_
  refine g_dup C dX8_next_40 rfl ?_
  refine g_getI (k := 3) C dX8_next_41 (hpC rfl rfl) rfl fl_X8_28 rfl ?_
  refine g_iconst (v := 1) C dX8_next_44 (by decide) ?_
  refine g_iadd C dX8_next_45 ?_
  obtain ⟨h17, eh17, T⟩ := tt_lt T
  refine g_putI (k := 3) C dX8_next_46 (hpC rfl rfl) rfl fp_X8_28 rfl eh17 ?_
  refine g_goto (tgt := 0) C dX8_next_49 (by decide) ?_
  exact hL0 _ (tt_some T)

noncomputable def f8_next_0_s (h : Hp) : Option ((Hp) ⊕ (Hp)) :=
  if h.1 1 2 ≤ h.1 1 3 then ((f8_next_52 h).map (fun z => .inr (z))) else (gd (inb (h.1 1 3) 700) <| if h.1 2 (ix (h.1 1 3)) = 10 then (f8_next_39 h) else (gd (inb (h.1 1 3) 700) <| if h.1 2 (ix (h.1 1 3)) = 32 then (f8_next_39 h) else ((f8_next_52 h).map (fun z => .inr (z)))))
set_option maxRecDepth 100000 in
set_option maxHeartbeats 4000000 in
theorem k_f8_next_0_s {x : Mx} {l : Launch} {post0 : Option Value → Hp → Prop} (C : Cx ΛC x l RX8 cX8_next rm_f8_next none 1 post0) {K : (Hp) ⊕ (Hp) → Prop} (h : Hp) (hR : ∀ h : Hp, K (.inr h) → post0 none h) (hL0 : ∀ (h : Hp), K (.inl h) → G ΛC x 0 [(0, .ref 1)] [] h) (T : Tt (f8_next_0_s h) K) : G ΛC x 0 [(0, .ref 1)] [] h := by
  refine g_aload_n (q := 0) C dX8_next_0 rfl rfl ?_
  refine g_getI (k := 3) C dX8_next_1 (hpC rfl rfl) rfl fl_X8_28 rfl ?_
  refine g_aload_n (q := 0) C dX8_next_4 rfl rfl ?_
  refine g_getI (k := 2) C dX8_next_5 (hpC rfl rfl) rfl fl_X8_25 rfl ?_
  refine g_icmp_ge (tgt := 52) C dX8_next_8 (by decide) (fun c1 => ?_) (fun c1 => ?_)
  · have T := tt_t T c1
    exact k_f8_next_52 C h hR (tt_map T)
  · have T := tt_f T c1
    refine g_aload_n (q := 0) C dX8_next_11 rfl rfl ?_
    refine g_getF (k := 0) (q := 2) C dX8_next_12 (hpC rfl rfl) rfl fl_X8_9 rfl rfl ?_
    refine g_aload_n (q := 0) C dX8_next_15 rfl rfl ?_
    refine g_getI (k := 3) C dX8_next_16 (hpC rfl rfl) rfl fl_X8_28 rfl ?_
    obtain ⟨g15, T⟩ := tt_gd T
    refine g_bald C dX8_next_19 (hpC rfl rfl) rfl (inb_of rfl g15) ?_
    refine g_bipush (v := 10) C dX8_next_20 (by decide) ?_
    refine g_icmp_eq (tgt := 39) C dX8_next_22 (by decide) (fun c16 => ?_) (fun c16 => ?_)
    · have T := tt_t T c16
      exact k_f8_next_39 C h hR hL0 T
    · have T := tt_f T c16
      refine g_aload_n (q := 0) C dX8_next_25 rfl rfl ?_
      refine g_getF (k := 0) (q := 2) C dX8_next_26 (hpC rfl rfl) rfl fl_X8_9 rfl rfl ?_
      refine g_aload_n (q := 0) C dX8_next_29 rfl rfl ?_
      refine g_getI (k := 3) C dX8_next_30 (hpC rfl rfl) rfl fl_X8_28 rfl ?_
      obtain ⟨g18, T⟩ := tt_gd T
      refine g_bald C dX8_next_33 (hpC rfl rfl) rfl (inb_of rfl g18) ?_
      refine g_bipush (v := 32) C dX8_next_34 (by decide) ?_
      refine g_icmp_ne (tgt := 52) C dX8_next_36 (by decide) (fun c19 => ?_) (fun c19 => ?_)
      · have T := tt_f T c19
        exact k_f8_next_52 C h hR (tt_map T)
      · have T := tt_t T c19
        exact k_f8_next_39 C h hR hL0 T

noncomputable def f8_next_0 (h : Hp) : Option (Hp) := lp (fun z : Hp => f8_next_0_s z) h
theorem k_f8_next_0 {x : Mx} {l : Launch} {post0 : Option Value → Hp → Prop} (C : Cx ΛC x l RX8 cX8_next rm_f8_next none 1 post0) {K : Hp → Prop} (h : Hp) (hR : ∀ h : Hp, K h → post0 none h) (T : Tt (f8_next_0 h) K) : G ΛC x 0 [(0, .ref 1)] [] h :=
  lp_ind (f := fun z : Hp => f8_next_0_s z) (P := fun z : Hp => G ΛC x 0 [(0, .ref 1)] [] z) (K := K) (fun z T => k_f8_next_0_s C (K := KS (fun z : Hp => G ΛC x 0 [(0, .ref 1)] [] z) K) z hR (fun _ q => q) T) h T
noncomputable def f8_next (h : Hp) : Option (Hp) := f8_next_0 h
theorem ok_f8_next {l : Launch} {K : Hp → Prop} (h : Hp) (T : Tt (f8_next h) K) : Ok ΛC l yX8_next cX8_next 1 none rm_f8_next [.ref 1] h (PVw K) :=
  Ok.of RX8 rfl (by decide) ⟨rfl, rfl⟩ (Nat.le_of_ble_eq_true rfl) (fun x C => k_f8_next_0 C h (fun _ q => ⟨rfl, q⟩) T)

abbrev rm_f8_begin : Room := { frames := 3, cells := 0, slots := 0, locals := 62 }
noncomputable def f8_begin (x1 : Int32) (h : Hp) : Option (Hp) :=
  lt (wI h 1 2 (if h.1 1 1 < x1 then h.1 1 1 else x1 : Int32)) fun h1 => lt (wI h1 1 3 0) fun h2 => (f8_next h2).bind fun h3 => some (h3)
set_option maxRecDepth 100000 in
set_option maxHeartbeats 4000000 in
theorem k_f8_begin {x : Mx} {l : Launch} {post0 : Option Value → Hp → Prop} (C : Cx ΛC x l RX8 cX8_begin rm_f8_begin none 2 post0) {K : Hp → Prop} (x1 : Int32) (h : Hp) (hR : ∀ h : Hp, K h → post0 none h) (T : Tt (f8_begin x1 h) K) : G ΛC x 0 [(0, .ref 1), (1, .int x1)] [] h := by
  refine g_aload_n (q := 0) C dX8_begin_0 rfl rfl ?_
  refine g_iload_n (q := 1) C dX8_begin_1 rfl rfl ?_
  refine g_aload_n (q := 0) C dX8_begin_2 rfl rfl ?_
  refine g_getI (k := 1) C dX8_begin_3 (hpC rfl rfl) rfl fl_X8_15 rfl ?_
  refine g_mmin C dX8_begin_6 mm_X8_19 ms_min mi_math mc_min (Nat.le_of_ble_eq_true rfl) (Nat.le_of_ble_eq_true rfl) ?_
  obtain ⟨h1, eh1, T⟩ := tt_lt T
  refine g_putI (k := 2) C dX8_begin_9 (hpC rfl rfl) rfl fp_X8_25 rfl eh1 ?_
  refine g_aload_n (q := 0) C dX8_begin_12 rfl rfl ?_
  refine g_iconst (v := 0) C dX8_begin_13 (by decide) ?_
  obtain ⟨h2, eh2, T⟩ := tt_lt T
  refine g_putI (k := 3) C dX8_begin_14 (hpC rfl rfl) rfl fp_X8_28 rfl eh2 ?_
  refine g_aload_n (q := 0) C dX8_begin_17 rfl rfl ?_
  refine g_callV (p := 1) (As := []) C dX8_begin_18 ml_X8_31 yv_f8_next ⟨rfl, rfl⟩ ⟨Nat.le_of_ble_eq_true rfl, Nat.le_of_ble_eq_true rfl⟩ (hpC rfl rfl) rfl rfl rfl (Nat.le_of_ble_eq_true rfl) (ok_f8_next h2 (tt_bind T)) ?_
  rintro _ h3 ⟨rfl, T⟩
  show G ΛC x 21 [(0, .ref 1), (1, .int x1)] [] h3
  exact g_vret C dX8_begin_21 (hR _ (tt_some T))

theorem ok_f8_begin {l : Launch} {K : Hp → Prop} (x1 : Int32) (h : Hp) (T : Tt (f8_begin x1 h) K) : Ok ΛC l yX8_begin cX8_begin 2 none rm_f8_begin [.ref 1, .int x1] h (PVw K) :=
  Ok.of RX8 rfl (by decide) ⟨rfl, rfl⟩ (Nat.le_of_ble_eq_true rfl) (fun x C => k_f8_begin C x1 h (fun _ q => ⟨rfl, q⟩) T)

abbrev rm_f7_fail : Room := { frames := 0, cells := 0, slots := 0, locals := 0 }
noncomputable def f7_fail (x1 : Int32) (h : Hp) : Option (Hp) :=
  if h.1 3 3 = 0 then (lt (wI h 3 3 x1) fun h2 => lt (wI h2 3 4 (h2.1 1 4)) fun h3 => some (h3)) else (some (h))
set_option maxRecDepth 100000 in
set_option maxHeartbeats 4000000 in
theorem k_f7_fail {x : Mx} {l : Launch} {post0 : Option Value → Hp → Prop} (C : Cx ΛC x l RX7 cX7_fail rm_f7_fail none 2 post0) {K : Hp → Prop} (x1 : Int32) (h : Hp) (hR : ∀ h : Hp, K h → post0 none h) (T : Tt (f7_fail x1 h) K) : G ΛC x 0 [(0, .ref 3), (1, .int x1)] [] h := by
  refine g_aload_n (q := 0) C dX7_fail_0 rfl rfl ?_
  refine g_getI (k := 3) C dX7_fail_1 (hpC rfl rfl) rfl fl_X7_9 rfl ?_
  refine g_if_ne (tgt := 23) C dX7_fail_4 (by decide) (fun c1 => ?_) (fun c1 => ?_)
  · have T := tt_f T c1
    exact g_vret C dX7_fail_23 (hR _ (tt_some T))
  · have T := tt_t T c1
    refine g_aload_n (q := 0) C dX7_fail_7 rfl rfl ?_
    refine g_iload_n (q := 1) C dX7_fail_8 rfl rfl ?_
    obtain ⟨h2, eh2, T⟩ := tt_lt T
    refine g_putI (k := 3) C dX7_fail_9 (hpC rfl rfl) rfl fp_X7_9 rfl eh2 ?_
    refine g_aload_n (q := 0) C dX7_fail_12 rfl rfl ?_
    refine g_aload_n (q := 0) C dX7_fail_13 rfl rfl ?_
    refine g_getA (k := 0) (q := 1) C dX7_fail_14 (hpC rfl rfl) rfl fl_X7_18 rfl rfl ?_
    refine g_getI (k := 4) C dX7_fail_17 (hpC rfl rfl) rfl fl_X7_55 rfl ?_
    obtain ⟨h3, eh3, T⟩ := tt_lt T
    refine g_putI (k := 4) C dX7_fail_20 (hpC rfl rfl) rfl fp_X7_15 rfl eh3 ?_
    exact g_vret C dX7_fail_23 (hR _ (tt_some T))

theorem ok_f7_fail {l : Launch} {K : Hp → Prop} (x1 : Int32) (h : Hp) (T : Tt (f7_fail x1 h) K) : Ok ΛC l yX7_fail cX7_fail 2 none rm_f7_fail [.ref 3, .int x1] h (PVw K) :=
  Ok.of RX7 rfl (by decide) ⟨rfl, rfl⟩ (Nat.le_of_ble_eq_true rfl) (fun x C => k_f7_fail C x1 h (fun _ q => ⟨rfl, q⟩) T)

abbrev rm_f7_check : Room := { frames := 1, cells := 0, slots := 0, locals := 21 }
noncomputable def f7_check (x1 : Int32) (x2 : Int32) (h : Hp) : Option (Hp) :=
  if x1 = 0 then ((f7_fail x2 h).bind fun h2 => some (h2)) else (some (h))
set_option maxRecDepth 100000 in
set_option maxHeartbeats 4000000 in
theorem k_f7_check {x : Mx} {l : Launch} {post0 : Option Value → Hp → Prop} (C : Cx ΛC x l RX7 cX7_check rm_f7_check none 3 post0) {K : Hp → Prop} (x1 : Int32) (x2 : Int32) (h : Hp) (hR : ∀ h : Hp, K h → post0 none h) (T : Tt (f7_check x1 x2 h) K) : G ΛC x 0 [(0, .ref 3), (1, .int x1), (2, .int x2)] [] h := by
  refine g_iload_n (q := 1) C dX7_check_0 rfl rfl ?_
  refine g_if_ne (tgt := 9) C dX7_check_1 (by decide) (fun c1 => ?_) (fun c1 => ?_)
  · have T := tt_f T c1
    exact g_vret C dX7_check_9 (hR _ (tt_some T))
  · have T := tt_t T c1
    refine g_aload_n (q := 0) C dX7_check_4 rfl rfl ?_
    refine g_iload_n (q := 2) C dX7_check_5 rfl rfl ?_
    refine g_callV (p := 3) (As := [.int x2]) C dX7_check_6 ml_X7_58 yv_f7_fail ⟨rfl, rfl⟩ ⟨Nat.le_of_ble_eq_true rfl, Nat.le_of_ble_eq_true rfl⟩ (hpC rfl rfl) rfl rfl rfl (Nat.le_of_ble_eq_true rfl) (ok_f7_fail x2 h (tt_bind T)) ?_
    rintro _ h2 ⟨rfl, T⟩
    show G ΛC x 9 [(0, .ref 3), (1, .int x1), (2, .int x2)] [] h2
    exact g_vret C dX7_check_9 (hR _ (tt_some T))

theorem ok_f7_check {l : Launch} {K : Hp → Prop} (x1 : Int32) (x2 : Int32) (h : Hp) (T : Tt (f7_check x1 x2 h) K) : Ok ΛC l yX7_check cX7_check 3 none rm_f7_check [.ref 3, .int x1, .int x2] h (PVw K) :=
  Ok.of RX7 rfl (by decide) ⟨rfl, rfl⟩ (Nat.le_of_ble_eq_true rfl) (fun x C => k_f7_check C x1 x2 h (fun _ q => ⟨rfl, q⟩) T)

abbrev rm_f7_step : Room := { frames := 3, cells := 0, slots := 0, locals := 62 }
noncomputable def f7_step (h : Hp) : Option (Hp) :=
  if h.1 3 3 = 0 then ((f8_next h).bind fun h2 => some (h2)) else (some (h))
set_option maxRecDepth 100000 in
set_option maxHeartbeats 4000000 in
theorem k_f7_step {x : Mx} {l : Launch} {post0 : Option Value → Hp → Prop} (C : Cx ΛC x l RX7 cX7_step rm_f7_step none 1 post0) {K : Hp → Prop} (h : Hp) (hR : ∀ h : Hp, K h → post0 none h) (T : Tt (f7_step h) K) : G ΛC x 0 [(0, .ref 3)] [] h := by
  refine g_aload_n (q := 0) C dX7_step_0 rfl rfl ?_
  refine g_getI (k := 3) C dX7_step_1 (hpC rfl rfl) rfl fl_X7_9 rfl ?_
  refine g_if_ne (tgt := 14) C dX7_step_4 (by decide) (fun c1 => ?_) (fun c1 => ?_)
  · have T := tt_f T c1
    exact g_vret C dX7_step_14 (hR _ (tt_some T))
  · have T := tt_t T c1
    refine g_aload_n (q := 0) C dX7_step_7 rfl rfl ?_
    refine g_getA (k := 0) (q := 1) C dX7_step_8 (hpC rfl rfl) rfl fl_X7_18 rfl rfl ?_
    refine g_callV (p := 1) (As := []) C dX7_step_11 ml_X7_61 yv_f8_next ⟨rfl, rfl⟩ ⟨Nat.le_of_ble_eq_true rfl, Nat.le_of_ble_eq_true rfl⟩ (hpC rfl rfl) rfl rfl rfl (Nat.le_of_ble_eq_true rfl) (ok_f8_next h (tt_bind T)) ?_
    rintro _ h2 ⟨rfl, T⟩
    show G ΛC x 14 [(0, .ref 3)] [] h2
    exact g_vret C dX7_step_14 (hR _ (tt_some T))

theorem ok_f7_step {l : Launch} {K : Hp → Prop} (h : Hp) (T : Tt (f7_step h) K) : Ok ΛC l yX7_step cX7_step 1 none rm_f7_step [.ref 3] h (PVw K) :=
  Ok.of RX7 rfl (by decide) ⟨rfl, rfl⟩ (Nat.le_of_ble_eq_true rfl) (fun x C => k_f7_step C h (fun _ q => ⟨rfl, q⟩) T)

abbrev rm_f7_isOfLanguage : Room := { frames := 0, cells := 0, slots := 0, locals := 0 }
noncomputable def f7_isOfLanguage_2_s (x0 : Int32) (x1 : Int32) : Option ((Int32) ⊕ (Int32)) :=
  if 20 ≤ x1 then (some (.inr 0)) else (gd (inb x1 20) <| if langF (ix x1) = x0 then (some (.inr 1)) else (some (.inl (x1 + 1))))
set_option maxRecDepth 100000 in
set_option maxHeartbeats 4000000 in
theorem k_f7_isOfLanguage_2_s {x : Mx} {l : Launch} {post0 : Option Value → Hp → Prop} (C : Cx ΛC x l RX7 cX7_isOfLanguage rm_f7_isOfLanguage (some .boolean) 2 post0) {K : (Int32) ⊕ (Int32) → Prop} (x0 : Int32) (x1 : Int32) (h : Hp) (hR : ∀ v : Int32, K (.inr v) → post0 (some (.int v)) h) (hL2 : ∀ (x1 : Int32), K (.inl x1) → G ΛC x 2 [(0, .int x0), (1, .int x1)] [] h) (T : Tt (f7_isOfLanguage_2_s x0 x1) K) : G ΛC x 2 [(0, .int x0), (1, .int x1)] [] h := by
  refine g_iload_n (q := 1) C dX7_isOfLanguage_2 rfl rfl ?_
  refine g_langLen C dX7_isOfLanguage_3 dX7_isOfLanguage_6 lang_212 ?_
  refine g_icmp_ge (tgt := 27) C dX7_isOfLanguage_7 (by decide) (fun c1 => ?_) (fun c1 => ?_)
  · have T := tt_t T c1
    refine g_iconst (v := 0) C dX7_isOfLanguage_27 (by decide) ?_
    exact g_zret C dX7_isOfLanguage_28 (Or.inl rfl) (hR _ (tt_some T))
  · have T := tt_f T c1
    obtain ⟨g2, T⟩ := tt_gd T
    refine g_langAt (q := 1) C dX7_isOfLanguage_10 dX7_isOfLanguage_13 rfl rfl dX7_isOfLanguage_14 lang_212 g2 ?_
    refine g_iload_n (q := 0) C dX7_isOfLanguage_15 rfl rfl ?_
    refine g_icmp_ne (tgt := 21) C dX7_isOfLanguage_16 (by decide) (fun c3 => ?_) (fun c3 => ?_)
    · have T := tt_f T c3
      refine g_iinc (v := x1 + 1) (q := 1) (L' := [(1, .int (x1 + 1)), (0, .int x0)]) C dX7_isOfLanguage_21 rfl (by first | rfl | exact congrArg _ (by decide)) (by decide) rfl ?_
      refine g_goto (tgt := 2) C dX7_isOfLanguage_24 (by decide) ?_
      refine g_sub [1, 0] rfl ?_
      exact hL2 _ (tt_some T)
    · have T := tt_t T c3
      refine g_iconst (v := 1) C dX7_isOfLanguage_19 (by decide) ?_
      exact g_zret C dX7_isOfLanguage_20 (Or.inr rfl) (hR _ (tt_some T))

noncomputable def f7_isOfLanguage_2 (x0 : Int32) (x1 : Int32) : Option (Int32) := lp (fun z : Int32 => f7_isOfLanguage_2_s x0 z) x1
theorem k_f7_isOfLanguage_2 {x : Mx} {l : Launch} {post0 : Option Value → Hp → Prop} (C : Cx ΛC x l RX7 cX7_isOfLanguage rm_f7_isOfLanguage (some .boolean) 2 post0) {K : Int32 → Prop} (x0 : Int32) (x1 : Int32) (h : Hp) (hR : ∀ v : Int32, K v → post0 (some (.int v)) h) (T : Tt (f7_isOfLanguage_2 x0 x1) K) : G ΛC x 2 [(0, .int x0), (1, .int x1)] [] h :=
  lp_ind (f := fun z : Int32 => f7_isOfLanguage_2_s x0 z) (P := fun z : Int32 => G ΛC x 2 [(0, .int x0), (1, .int z)] [] h) (K := K) (fun z T => k_f7_isOfLanguage_2_s C (K := KS (fun z : Int32 => G ΛC x 2 [(0, .int x0), (1, .int z)] [] h) K) x0 z h hR (fun _ q => q) T) x1 T
noncomputable def f7_isOfLanguage (x0 : Int32) : Option (Int32) :=
  f7_isOfLanguage_2 x0 0
set_option maxRecDepth 100000 in
set_option maxHeartbeats 4000000 in
theorem k_f7_isOfLanguage {x : Mx} {l : Launch} {post0 : Option Value → Hp → Prop} (C : Cx ΛC x l RX7 cX7_isOfLanguage rm_f7_isOfLanguage (some .boolean) 2 post0) {K : Int32 → Prop} (x0 : Int32) (h : Hp) (hR : ∀ v : Int32, K v → post0 (some (.int v)) h) (T : Tt (f7_isOfLanguage x0) K) : G ΛC x 0 [(0, .int x0)] [] h := by
  refine g_iconst (v := 0) C dX7_isOfLanguage_0 (by decide) ?_
  refine g_istore_n (L' := [(1, .int 0), (0, .int x0)]) C dX7_isOfLanguage_1 rfl (by decide) rfl ?_
  refine g_sub [1, 0] rfl ?_
  exact k_f7_isOfLanguage_2 C x0 0 h hR T

theorem ok_f7_isOfLanguage {l : Launch} {K : Int32 → Prop} (x0 : Int32) (h : Hp) (T : Tt (f7_isOfLanguage x0) K) : Ok ΛC l yX7_isOfLanguage cX7_isOfLanguage 2 (some .boolean) rm_f7_isOfLanguage [.int x0] h (PIs K h) :=
  Ok.of RX7 rfl (by decide) ⟨rfl, rfl⟩ (Nat.le_of_ble_eq_true rfl) (fun x C => k_f7_isOfLanguage C x0 h (fun v q => ⟨v, rfl, rfl, q⟩) T)

abbrev rm_f7_takeName : Room := { frames := 2, cells := 0, slots := 0, locals := 43 }
noncomputable def f7_takeName_30 (s0 : Int32) (h : Hp) : Option (Int32 × Hp) :=
  (f7_check s0 1 h).bind fun h2 => some (h2.1 1 6, h2)
set_option maxRecDepth 100000 in
set_option maxHeartbeats 4000000 in
theorem k_f7_takeName_30 {x : Mx} {l : Launch} {post0 : Option Value → Hp → Prop} (C : Cx ΛC x l RX7 cX7_takeName rm_f7_takeName (some .int) 1 post0) {K : Int32 × Hp → Prop} (s0 : Int32) (h : Hp) (hR : ∀ (v : Int32) (h : Hp), K (v, h) → post0 (some (.int v)) h) (T : Tt (f7_takeName_30 s0 h) K) : G ΛC x 30 [(0, .ref 3)] [.int s0, .ref 3] h := by
  refine g_iconst (v := 1) C dX7_takeName_30 (by decide) ?_
  refine g_callV (p := 3) (As := [.int s0, .int 1]) C dX7_takeName_31 ml_X7_92 yv_f7_check ⟨rfl, rfl⟩ ⟨Nat.le_of_ble_eq_true rfl, Nat.le_of_ble_eq_true rfl⟩ (hpC rfl rfl) rfl rfl rfl (Nat.le_of_ble_eq_true rfl) (ok_f7_check s0 1 h (tt_bind T)) ?_
  rintro _ h2 ⟨rfl, T⟩
  show G ΛC x 34 [(0, .ref 3)] [] h2
  refine g_aload_n (q := 0) C dX7_takeName_34 rfl rfl ?_
  refine g_getA (k := 0) (q := 1) C dX7_takeName_35 (hpC rfl rfl) rfl fl_X7_18 rfl rfl ?_
  refine g_getI (k := 6) C dX7_takeName_38 (hpC rfl rfl) rfl fl_X7_64 rfl ?_
  exact g_iret C dX7_takeName_41 (hR _ _ (tt_some T))

noncomputable def f7_takeName_29 (h : Hp) : Option (Int32 × Hp) :=
  f7_takeName_30 0 h
set_option maxRecDepth 100000 in
set_option maxHeartbeats 4000000 in
theorem k_f7_takeName_29 {x : Mx} {l : Launch} {post0 : Option Value → Hp → Prop} (C : Cx ΛC x l RX7 cX7_takeName rm_f7_takeName (some .int) 1 post0) {K : Int32 × Hp → Prop} (h : Hp) (hR : ∀ (v : Int32) (h : Hp), K (v, h) → post0 (some (.int v)) h) (T : Tt (f7_takeName_29 h) K) : G ΛC x 29 [(0, .ref 3)] [.ref 3] h := by
  refine g_iconst (v := 0) C dX7_takeName_29 (by decide) ?_
  exact k_f7_takeName_30 C 0 h hR T

noncomputable def f7_takeName (h : Hp) : Option (Int32 × Hp) :=
  if h.1 1 5 = 1 then ((f7_isOfLanguage (h.1 1 6)).bind fun r3 => if r3 = 0 then (f7_takeName_30 1 h) else (f7_takeName_29 h)) else (f7_takeName_29 h)
set_option maxRecDepth 100000 in
set_option maxHeartbeats 4000000 in
theorem k_f7_takeName {x : Mx} {l : Launch} {post0 : Option Value → Hp → Prop} (C : Cx ΛC x l RX7 cX7_takeName rm_f7_takeName (some .int) 1 post0) {K : Int32 × Hp → Prop} (h : Hp) (hR : ∀ (v : Int32) (h : Hp), K (v, h) → post0 (some (.int v)) h) (T : Tt (f7_takeName h) K) : G ΛC x 0 [(0, .ref 3)] [] h := by
  refine g_aload_n (q := 0) C dX7_takeName_0 rfl rfl ?_
  refine g_aload_n (q := 0) C dX7_takeName_1 rfl rfl ?_
  refine g_getA (k := 0) (q := 1) C dX7_takeName_2 (hpC rfl rfl) rfl fl_X7_18 rfl rfl ?_
  refine g_getI (k := 5) C dX7_takeName_5 (hpC rfl rfl) rfl fl_X7_46 rfl ?_
  refine g_iconst (v := 1) C dX7_takeName_8 (by decide) ?_
  refine g_icmp_ne (tgt := 29) C dX7_takeName_9 (by decide) (fun c1 => ?_) (fun c1 => ?_)
  · have T := tt_f T c1
    exact k_f7_takeName_29 C h hR T
  · have T := tt_t T c1
    refine g_aload_n (q := 0) C dX7_takeName_12 rfl rfl ?_
    refine g_getA (k := 0) (q := 1) C dX7_takeName_13 (hpC rfl rfl) rfl fl_X7_18 rfl rfl ?_
    refine g_getI (k := 6) C dX7_takeName_16 (hpC rfl rfl) rfl fl_X7_64 rfl ?_
    refine g_callS (As := [.int (h.1 1 6)]) C dX7_takeName_19 ml_X7_209 ys_f7_isOfLanguage ⟨rfl, rfl⟩ ⟨Nat.le_of_ble_eq_true rfl, Nat.le_of_ble_eq_true rfl⟩ rfl rfl (Nat.le_of_ble_eq_true rfl) (ok_f7_isOfLanguage (h.1 1 6) h (tt_bind T)) ?_
    rintro _ _ ⟨r3, rfl, rfl, T⟩
    show G ΛC x 22 [(0, .ref 3)] [.int r3, .ref 3] h
    refine g_if_ne (tgt := 29) C dX7_takeName_22 (by decide) (fun c4 => ?_) (fun c4 => ?_)
    · have T := tt_f T c4
      exact k_f7_takeName_29 C h hR T
    · have T := tt_t T c4
      refine g_iconst (v := 1) C dX7_takeName_25 (by decide) ?_
      refine g_goto (tgt := 30) C dX7_takeName_26 (by decide) ?_
      exact k_f7_takeName_30 C 1 h hR T

theorem ok_f7_takeName {l : Launch} {K : Int32 × Hp → Prop} (h : Hp) (T : Tt (f7_takeName h) K) : Ok ΛC l yX7_takeName cX7_takeName 1 (some .int) rm_f7_takeName [.ref 3] h (PIw K) :=
  Ok.of RX7 rfl (by decide) ⟨rfl, rfl⟩ (Nat.le_of_ble_eq_true rfl) (fun x C => k_f7_takeName C h (fun v _ q => ⟨v, rfl, q⟩) T)

abbrev rm_f10_boxNamed : Room := { frames := 0, cells := 0, slots := 0, locals := 0 }
noncomputable def f10_boxNamed_2_s (x0 : Nat) (x1 : Int32) (x2 : Int32) (h : Hp) : Option ((Int32) ⊕ (Int32)) :=
  if h.1 x0 5 ≤ x2 then (some (.inr (-1))) else (gd (inb x2 6) <| if h.1 (x0 + 1 + 1 + 2 * ix x2) 1 = x1 then (some (.inr x2)) else (some (.inl (x2 + 1))))
set_option maxRecDepth 100000 in
set_option maxHeartbeats 4000000 in
theorem k_f10_boxNamed_2_s {x : Mx} {l : Launch} {post0 : Option Value → Hp → Prop} (C : Cx ΛC x l RX10 cX10_boxNamed rm_f10_boxNamed (some .int) 3 post0) {K : (Int32) ⊕ (Int32) → Prop} (x0 : Nat) (x1 : Int32) (x2 : Int32) (kx0 : kdC x0 = 10) (h : Hp) (hR : ∀ v : Int32, K (.inr v) → post0 (some (.int v)) h) (hL2 : ∀ (x2 : Int32), K (.inl x2) → G ΛC x 2 [(0, .ref x0), (1, .int x1), (2, .int x2)] [] h) (T : Tt (f10_boxNamed_2_s x0 x1 x2 h) K) : G ΛC x 2 [(0, .ref x0), (1, .int x1), (2, .int x2)] [] h := by
  refine g_iload_n (q := 2) C dX10_boxNamed_2 rfl rfl ?_
  refine g_aload_n (q := 0) C dX10_boxNamed_3 rfl rfl ?_
  refine g_getI (k := 5) C dX10_boxNamed_4 (hpC kx0 rfl) kx0 fl_X10_38 rfl ?_
  refine g_icmp_ge (tgt := 31) C dX10_boxNamed_7 (by decide) (fun c1 => ?_) (fun c1 => ?_)
  · have T := tt_t T c1
    refine g_iconst (v := (-1)) C dX10_boxNamed_31 (by decide) ?_
    exact g_iret C dX10_boxNamed_32 (hR _ (tt_some T))
  · have T := tt_f T c1
    refine g_aload_n (q := 0) C dX10_boxNamed_10 rfl rfl ?_
    refine g_getF (k := 0) (q := x0 + 1) C dX10_boxNamed_11 (hpC kx0 rfl) kx0 fl_X10_11 rfl rfl ?_
    refine g_iload_n (q := 2) C dX10_boxNamed_14 rfl rfl ?_
    obtain ⟨g2, T⟩ := tt_gd T
    refine g_aald (q := x0 + 1 + 1 + 2 * ix x2) C dX10_boxNamed_15 (hpC (kf_10_0 kx0) rfl) (kf_10_0 kx0) (inb_of (lf_10_0 kx0) g2) rfl ?_
    refine g_getI (k := 1) C dX10_boxNamed_16 (hpC (kboxC (kf_10_0 kx0) g2) rfl) (kboxC (kf_10_0 kx0) g2) fl_X10_67 rfl ?_
    refine g_iload_n (q := 1) C dX10_boxNamed_19 rfl rfl ?_
    refine g_icmp_ne (tgt := 25) C dX10_boxNamed_20 (by decide) (fun c3 => ?_) (fun c3 => ?_)
    · have T := tt_f T c3
      refine g_iinc (v := x2 + 1) (q := 2) (L' := [(2, .int (x2 + 1)), (0, .ref x0), (1, .int x1)]) C dX10_boxNamed_25 rfl (by first | rfl | exact congrArg _ (by decide)) (by decide) rfl ?_
      refine g_goto (tgt := 2) C dX10_boxNamed_28 (by decide) ?_
      refine g_sub [1, 2, 0] rfl ?_
      exact hL2 _ (tt_some T)
    · have T := tt_t T c3
      refine g_iload_n (q := 2) C dX10_boxNamed_23 rfl rfl ?_
      exact g_iret C dX10_boxNamed_24 (hR _ (tt_some T))

noncomputable def f10_boxNamed_2 (x0 : Nat) (x1 : Int32) (x2 : Int32) (h : Hp) : Option (Int32) := lp (fun z : Int32 => f10_boxNamed_2_s x0 x1 z h) x2
theorem k_f10_boxNamed_2 {x : Mx} {l : Launch} {post0 : Option Value → Hp → Prop} (C : Cx ΛC x l RX10 cX10_boxNamed rm_f10_boxNamed (some .int) 3 post0) {K : Int32 → Prop} (x0 : Nat) (x1 : Int32) (x2 : Int32) (kx0 : kdC x0 = 10) (h : Hp) (hR : ∀ v : Int32, K v → post0 (some (.int v)) h) (T : Tt (f10_boxNamed_2 x0 x1 x2 h) K) : G ΛC x 2 [(0, .ref x0), (1, .int x1), (2, .int x2)] [] h :=
  lp_ind (f := fun z : Int32 => f10_boxNamed_2_s x0 x1 z h) (P := fun z : Int32 => G ΛC x 2 [(0, .ref x0), (1, .int x1), (2, .int z)] [] h) (K := K) (fun z T => k_f10_boxNamed_2_s C (K := KS (fun z : Int32 => G ΛC x 2 [(0, .ref x0), (1, .int x1), (2, .int z)] [] h) K) x0 x1 z kx0 h hR (fun _ q => q) T) x2 T
noncomputable def f10_boxNamed (x0 : Nat) (x1 : Int32) (h : Hp) : Option (Int32) :=
  f10_boxNamed_2 x0 x1 0 h
set_option maxRecDepth 100000 in
set_option maxHeartbeats 4000000 in
theorem k_f10_boxNamed {x : Mx} {l : Launch} {post0 : Option Value → Hp → Prop} (C : Cx ΛC x l RX10 cX10_boxNamed rm_f10_boxNamed (some .int) 3 post0) {K : Int32 → Prop} (x0 : Nat) (x1 : Int32) (kx0 : kdC x0 = 10) (h : Hp) (hR : ∀ v : Int32, K v → post0 (some (.int v)) h) (T : Tt (f10_boxNamed x0 x1 h) K) : G ΛC x 0 [(0, .ref x0), (1, .int x1)] [] h := by
  refine g_iconst (v := 0) C dX10_boxNamed_0 (by decide) ?_
  refine g_istore_n (L' := [(2, .int 0), (0, .ref x0), (1, .int x1)]) C dX10_boxNamed_1 rfl (by decide) rfl ?_
  refine g_sub [1, 2, 0] rfl ?_
  exact k_f10_boxNamed_2 C x0 x1 0 kx0 h hR T

theorem ok_f10_boxNamed {l : Launch} {K : Int32 → Prop} (x0 : Nat) (x1 : Int32) (kx0 : kdC x0 = 10) (h : Hp) (T : Tt (f10_boxNamed x0 x1 h) K) : Ok ΛC l yX10_boxNamed cX10_boxNamed 3 (some .int) rm_f10_boxNamed [.ref x0, .int x1] h (PIs K h) :=
  Ok.of RX10 rfl (by decide) ⟨rfl, rfl⟩ (Nat.le_of_ble_eq_true rfl) (fun x C => k_f10_boxNamed C x0 x1 kx0 h (fun v q => ⟨v, rfl, rfl, q⟩) T)

abbrev rm_f7_checkNumber : Room := { frames := 2, cells := 0, slots := 0, locals := 43 }
noncomputable def f7_checkNumber_49 (s0 : Int32) (h : Hp) : Option (Hp) :=
  (f7_check s0 2 h).bind fun h4 => some (h4)
set_option maxRecDepth 100000 in
set_option maxHeartbeats 4000000 in
theorem k_f7_checkNumber_49 {x : Mx} {l : Launch} {post0 : Option Value → Hp → Prop} (C : Cx ΛC x l RX7 cX7_checkNumber rm_f7_checkNumber none 3 post0) {K : Hp → Prop} (s0 : Int32) (h : Hp) (hR : ∀ h : Hp, K h → post0 none h) (T : Tt (f7_checkNumber_49 s0 h) K) : G ΛC x 49 [] [.int s0, .ref 3] h := by
  refine g_iconst (v := 2) C dX7_checkNumber_49 (by decide) ?_
  refine g_callV (p := 3) (As := [.int s0, .int 2]) C dX7_checkNumber_50 ml_X7_92 yv_f7_check ⟨rfl, rfl⟩ ⟨Nat.le_of_ble_eq_true rfl, Nat.le_of_ble_eq_true rfl⟩ (hpC rfl rfl) rfl rfl rfl (Nat.le_of_ble_eq_true rfl) (ok_f7_check s0 2 h (tt_bind T)) ?_
  rintro _ h4 ⟨rfl, T⟩
  show G ΛC x 53 [] [] h4
  exact g_vret C dX7_checkNumber_53 (hR _ (tt_some T))

noncomputable def f7_checkNumber_48 (h : Hp) : Option (Hp) :=
  f7_checkNumber_49 0 h
set_option maxRecDepth 100000 in
set_option maxHeartbeats 4000000 in
theorem k_f7_checkNumber_48 {x : Mx} {l : Launch} {post0 : Option Value → Hp → Prop} (C : Cx ΛC x l RX7 cX7_checkNumber rm_f7_checkNumber none 3 post0) {K : Hp → Prop} (h : Hp) (hR : ∀ h : Hp, K h → post0 none h) (T : Tt (f7_checkNumber_48 h) K) : G ΛC x 48 [] [.ref 3] h := by
  refine g_iconst (v := 0) C dX7_checkNumber_48 (by decide) ?_
  exact k_f7_checkNumber_49 C 0 h hR T

noncomputable def f7_checkNumber_17 (x1 : Int32) (x2 : Int32) (s0 : Int32) (h : Hp) : Option (Hp) :=
  (f7_check s0 1 h).bind fun h2 => if h2.1 1 6 < x1 then (f7_checkNumber_48 h2) else (if x2 < h2.1 1 6 then (f7_checkNumber_48 h2) else (f7_checkNumber_49 1 h2))
set_option maxRecDepth 100000 in
set_option maxHeartbeats 4000000 in
theorem k_f7_checkNumber_17 {x : Mx} {l : Launch} {post0 : Option Value → Hp → Prop} (C : Cx ΛC x l RX7 cX7_checkNumber rm_f7_checkNumber none 3 post0) {K : Hp → Prop} (x1 : Int32) (x2 : Int32) (s0 : Int32) (h : Hp) (hR : ∀ h : Hp, K h → post0 none h) (T : Tt (f7_checkNumber_17 x1 x2 s0 h) K) : G ΛC x 17 [(0, .ref 3), (1, .int x1), (2, .int x2)] [.int s0, .ref 3] h := by
  refine g_iconst (v := 1) C dX7_checkNumber_17 (by decide) ?_
  refine g_callV (p := 3) (As := [.int s0, .int 1]) C dX7_checkNumber_18 ml_X7_92 yv_f7_check ⟨rfl, rfl⟩ ⟨Nat.le_of_ble_eq_true rfl, Nat.le_of_ble_eq_true rfl⟩ (hpC rfl rfl) rfl rfl rfl (Nat.le_of_ble_eq_true rfl) (ok_f7_check s0 1 h (tt_bind T)) ?_
  rintro _ h2 ⟨rfl, T⟩
  show G ΛC x 21 [(0, .ref 3), (1, .int x1), (2, .int x2)] [] h2
  refine g_aload_n (q := 0) C dX7_checkNumber_21 rfl rfl ?_
  refine g_aload_n (q := 0) C dX7_checkNumber_22 rfl rfl ?_
  refine g_getA (k := 0) (q := 1) C dX7_checkNumber_23 (hpC rfl rfl) rfl fl_X7_18 rfl rfl ?_
  refine g_getI (k := 6) C dX7_checkNumber_26 (hpC rfl rfl) rfl fl_X7_64 rfl ?_
  refine g_iload_n (q := 1) C dX7_checkNumber_29 rfl rfl ?_
  refine g_icmp_lt (tgt := 48) C dX7_checkNumber_30 (by decide) (fun c3 => ?_) (fun c3 => ?_)
  · have T := tt_t T c3
    refine g_sub [] rfl ?_
    exact k_f7_checkNumber_48 C h2 hR T
  · have T := tt_f T c3
    refine g_aload_n (q := 0) C dX7_checkNumber_33 rfl rfl ?_
    refine g_getA (k := 0) (q := 1) C dX7_checkNumber_34 (hpC rfl rfl) rfl fl_X7_18 rfl rfl ?_
    refine g_getI (k := 6) C dX7_checkNumber_37 (hpC rfl rfl) rfl fl_X7_64 rfl ?_
    refine g_iload_n (q := 2) C dX7_checkNumber_40 rfl rfl ?_
    refine g_icmp_gt (tgt := 48) C dX7_checkNumber_41 (by decide) (fun c5 => ?_) (fun c5 => ?_)
    · have T := tt_t T c5
      refine g_sub [] rfl ?_
      exact k_f7_checkNumber_48 C h2 hR T
    · have T := tt_f T c5
      refine g_iconst (v := 1) C dX7_checkNumber_44 (by decide) ?_
      refine g_goto (tgt := 49) C dX7_checkNumber_45 (by decide) ?_
      refine g_sub [] rfl ?_
      exact k_f7_checkNumber_49 C 1 h2 hR T

noncomputable def f7_checkNumber (x1 : Int32) (x2 : Int32) (h : Hp) : Option (Hp) :=
  if h.1 1 5 = 2 then (f7_checkNumber_17 x1 x2 1 h) else (f7_checkNumber_17 x1 x2 0 h)
set_option maxRecDepth 100000 in
set_option maxHeartbeats 4000000 in
theorem k_f7_checkNumber {x : Mx} {l : Launch} {post0 : Option Value → Hp → Prop} (C : Cx ΛC x l RX7 cX7_checkNumber rm_f7_checkNumber none 3 post0) {K : Hp → Prop} (x1 : Int32) (x2 : Int32) (h : Hp) (hR : ∀ h : Hp, K h → post0 none h) (T : Tt (f7_checkNumber x1 x2 h) K) : G ΛC x 0 [(0, .ref 3), (1, .int x1), (2, .int x2)] [] h := by
  refine g_aload_n (q := 0) C dX7_checkNumber_0 rfl rfl ?_
  refine g_aload_n (q := 0) C dX7_checkNumber_1 rfl rfl ?_
  refine g_getA (k := 0) (q := 1) C dX7_checkNumber_2 (hpC rfl rfl) rfl fl_X7_18 rfl rfl ?_
  refine g_getI (k := 5) C dX7_checkNumber_5 (hpC rfl rfl) rfl fl_X7_46 rfl ?_
  refine g_iconst (v := 2) C dX7_checkNumber_8 (by decide) ?_
  refine g_icmp_ne (tgt := 16) C dX7_checkNumber_9 (by decide) (fun c1 => ?_) (fun c1 => ?_)
  · have T := tt_f T c1
    refine g_iconst (v := 0) C dX7_checkNumber_16 (by decide) ?_
    exact k_f7_checkNumber_17 C x1 x2 0 h hR T
  · have T := tt_t T c1
    refine g_iconst (v := 1) C dX7_checkNumber_12 (by decide) ?_
    refine g_goto (tgt := 17) C dX7_checkNumber_13 (by decide) ?_
    exact k_f7_checkNumber_17 C x1 x2 1 h hR T

theorem ok_f7_checkNumber {l : Launch} {K : Hp → Prop} (x1 : Int32) (x2 : Int32) (h : Hp) (T : Tt (f7_checkNumber x1 x2 h) K) : Ok ΛC l yX7_checkNumber cX7_checkNumber 3 none rm_f7_checkNumber [.ref 3, .int x1, .int x2] h (PVw K) :=
  Ok.of RX7 rfl (by decide) ⟨rfl, rfl⟩ (Nat.le_of_ble_eq_true rfl) (fun x C => k_f7_checkNumber C x1 x2 h (fun _ q => ⟨rfl, q⟩) T)

abbrev rm_f7_takeNumber : Room := { frames := 3, cells := 0, slots := 0, locals := 65 }
noncomputable def f7_takeNumber (x1 : Int32) (x2 : Int32) (h : Hp) : Option (Int32 × Hp) :=
  lt (h.1 1 6) fun v1 => (f7_checkNumber x1 x2 h).bind fun h2 => if h2.1 3 3 = 0 then ((f8_next h2).bind fun h4 => some (v1, h4)) else (some (v1, h2))
set_option maxRecDepth 100000 in
set_option maxHeartbeats 4000000 in
theorem k_f7_takeNumber {x : Mx} {l : Launch} {post0 : Option Value → Hp → Prop} (C : Cx ΛC x l RX7 cX7_takeNumber rm_f7_takeNumber (some .int) 4 post0) {K : Int32 × Hp → Prop} (x1 : Int32) (x2 : Int32) (h : Hp) (hR : ∀ (v : Int32) (h : Hp), K (v, h) → post0 (some (.int v)) h) (T : Tt (f7_takeNumber x1 x2 h) K) : G ΛC x 0 [(0, .ref 3), (1, .int x1), (2, .int x2)] [] h := by
  refine g_aload_n (q := 0) C dX7_takeNumber_0 rfl rfl ?_
  refine g_getA (k := 0) (q := 1) C dX7_takeNumber_1 (hpC rfl rfl) rfl fl_X7_18 rfl rfl ?_
  refine g_getI (k := 6) C dX7_takeNumber_4 (hpC rfl rfl) rfl fl_X7_64 rfl ?_
  obtain ⟨v1, ev1, T⟩ := tt_lt T
  refine g_nameI ev1 ?_
  refine g_istore_n (L' := [(3, .int v1), (0, .ref 3), (1, .int x1), (2, .int x2)]) C dX7_takeNumber_7 rfl (by decide) rfl ?_
  refine g_aload_n (q := 1) C dX7_takeNumber_8 rfl rfl ?_
  refine g_iload_n (q := 2) C dX7_takeNumber_9 rfl rfl ?_
  refine g_iload_n (q := 3) C dX7_takeNumber_10 rfl rfl ?_
  refine g_callV (p := 3) (As := [.int x1, .int x2]) C dX7_takeNumber_11 ml_X7_148 yv_f7_checkNumber ⟨rfl, rfl⟩ ⟨Nat.le_of_ble_eq_true rfl, Nat.le_of_ble_eq_true rfl⟩ (hpC rfl rfl) rfl rfl rfl (Nat.le_of_ble_eq_true rfl) (ok_f7_checkNumber x1 x2 h (tt_bind T)) ?_
  rintro _ h2 ⟨rfl, T⟩
  show G ΛC x 14 [(3, .int v1), (0, .ref 3), (1, .int x1), (2, .int x2)] [] h2
  refine g_aload_n (q := 1) C dX7_takeNumber_14 rfl rfl ?_
  refine g_getI (k := 3) C dX7_takeNumber_15 (hpC rfl rfl) rfl fl_X7_9 rfl ?_
  refine g_if_ne (tgt := 28) C dX7_takeNumber_18 (by decide) (fun c3 => ?_) (fun c3 => ?_)
  · have T := tt_f T c3
    refine g_iload_n (q := 0) C dX7_takeNumber_28 rfl rfl ?_
    exact g_iret C dX7_takeNumber_29 (hR _ _ (tt_some T))
  · have T := tt_t T c3
    refine g_aload_n (q := 1) C dX7_takeNumber_21 rfl rfl ?_
    refine g_getA (k := 0) (q := 1) C dX7_takeNumber_22 (hpC rfl rfl) rfl fl_X7_18 rfl rfl ?_
    refine g_callV (p := 1) (As := []) C dX7_takeNumber_25 ml_X7_61 yv_f8_next ⟨rfl, rfl⟩ ⟨Nat.le_of_ble_eq_true rfl, Nat.le_of_ble_eq_true rfl⟩ (hpC rfl rfl) rfl rfl rfl (Nat.le_of_ble_eq_true rfl) (ok_f8_next h2 (tt_bind T)) ?_
    rintro _ h4 ⟨rfl, T⟩
    show G ΛC x 28 [(3, .int v1), (0, .ref 3), (1, .int x1), (2, .int x2)] [] h4
    refine g_iload_n (q := 0) C dX7_takeNumber_28 rfl rfl ?_
    exact g_iret C dX7_takeNumber_29 (hR _ _ (tt_some T))

theorem ok_f7_takeNumber {l : Launch} {K : Int32 × Hp → Prop} (x1 : Int32) (x2 : Int32) (h : Hp) (T : Tt (f7_takeNumber x1 x2 h) K) : Ok ΛC l yX7_takeNumber cX7_takeNumber 4 (some .int) rm_f7_takeNumber [.ref 3, .int x1, .int x2] h (PIw K) :=
  Ok.of RX7 rfl (by decide) ⟨rfl, rfl⟩ (Nat.le_of_ble_eq_true rfl) (fun x C => k_f7_takeNumber C x1 x2 h (fun v _ q => ⟨v, rfl, q⟩) T)

abbrev rm_f7_readBox : Room := { frames := 4, cells := 0, slots := 0, locals := 88 }
noncomputable def f7_readBox_162 (x2 : Nat) (h : Hp) : Option (Hp) :=
  lt (wI h x2 9 0) fun h30 => lt (wI h30 x2 4 0) fun h31 => (h31.2.2 3 2).bind fun p32 => gd (decide (kdC p32 = 10)) <| lt (wI h31 p32 5 ((h31.1 p32 5) + 1)) fun h34 => some (h34)
set_option maxRecDepth 100000 in
set_option maxHeartbeats 4000000 in
theorem k_f7_readBox_162 {x : Mx} {l : Launch} {post0 : Option Value → Hp → Prop} (C : Cx ΛC x l RX7 cX7_readBox rm_f7_readBox none 4 post0) {K : Hp → Prop} (x2 : Nat) (kx2 : kdC x2 = 0) (h : Hp) (hR : ∀ h : Hp, K h → post0 none h) (T : Tt (f7_readBox_162 x2 h) K) : G ΛC x 162 [(0, .ref 3), (2, .ref x2)] [] h := by
  refine g_aload_n (q := 1) C dX7_readBox_162 rfl rfl ?_
  refine g_iconst (v := 0) C dX7_readBox_163 (by decide) ?_
  obtain ⟨h30, eh30, T⟩ := tt_lt T
  refine g_putI (k := 9) C dX7_readBox_164 (hpC kx2 rfl) kx2 fp_X7_136 rfl eh30 ?_
  refine g_aload_n (q := 1) C dX7_readBox_167 rfl rfl ?_
  refine g_iconst (v := 0) C dX7_readBox_168 (by decide) ?_
  obtain ⟨h31, eh31, T⟩ := tt_lt T
  refine g_putI (k := 4) C dX7_readBox_169 (hpC kx2 rfl) kx2 fp_X7_139 rfl eh31 ?_
  refine g_aload_n (q := 0) C dX7_readBox_172 rfl rfl ?_
  obtain ⟨p32, ep32, T⟩ := tt_bind T
  obtain ⟨g33, T⟩ := tt_gd T
  have kp32 : kdC p32 = 10 := of_decide_eq_true g33
  refine g_getD (k := 2) (q := p32) C dX7_readBox_173 (hpC rfl rfl) rfl fl_X7_31 rfl ep32 ?_
  refine g_dup C dX7_readBox_176 rfl ?_
  refine g_getI (k := 5) C dX7_readBox_177 (hpC kp32 rfl) kp32 fl_X7_99 rfl ?_
  refine g_iconst (v := 1) C dX7_readBox_180 (by decide) ?_
  refine g_iadd C dX7_readBox_181 ?_
  obtain ⟨h34, eh34, T⟩ := tt_lt T
  refine g_putI (k := 5) C dX7_readBox_182 (hpC kp32 rfl) kp32 fp_X7_99 rfl eh34 ?_
  exact g_vret C dX7_readBox_185 (hR _ (tt_some T))

noncomputable def f7_readBox_152 (x2 : Nat) (x3 : Int32) (s0 : Int32) (s1 : Int32) (s2 : Nat) (h : Hp) : Option ((Int32 × Hp) ⊕ (Hp)) :=
  lt (wI h s2 3 (s1 + s0)) fun h41 => some (.inl (x3 + 1, h41))
set_option maxRecDepth 100000 in
set_option maxHeartbeats 4000000 in
theorem k_f7_readBox_152 {x : Mx} {l : Launch} {post0 : Option Value → Hp → Prop} (C : Cx ΛC x l RX7 cX7_readBox rm_f7_readBox none 4 post0) {K : (Int32 × Hp) ⊕ (Hp) → Prop} (x2 : Nat) (x3 : Int32) (s0 : Int32) (s1 : Int32) (s2 : Nat) (kx2 : kdC x2 = 0) (ks2 : kdC s2 = 0) (h : Hp) (hR : ∀ h : Hp, K (.inr h) → post0 none h) (hL114 : ∀ (x3 : Int32) (h : Hp), K (.inl (x3, h)) → G ΛC x 114 [(0, .ref 3), (2, .ref x2), (3, .int x3)] [] h) (T : Tt (f7_readBox_152 x2 x3 s0 s1 s2 h) K) : G ΛC x 152 [(0, .ref 3), (2, .ref x2), (3, .int x3)] [.int s0, .int s1, .ref s2] h := by
  refine g_iadd C dX7_readBox_152 ?_
  obtain ⟨h41, eh41, T⟩ := tt_lt T
  refine g_putI (k := 3) C dX7_readBox_153 (hpC ks2 rfl) ks2 fp_X7_129 rfl eh41 ?_
  refine g_iinc (v := x3 + 1) (q := 2) (L' := [(3, .int (x3 + 1)), (0, .ref 3), (2, .ref x2)]) C dX7_readBox_156 rfl (by first | rfl | exact congrArg _ (by decide)) (by decide) rfl ?_
  refine g_goto (tgt := 114) C dX7_readBox_159 (by decide) ?_
  refine g_sub [1, 2, 0] rfl ?_
  exact hL114 _ _ (tt_some T)

noncomputable def f7_readBox_114_s (x2 : Nat) (x3 : Int32) (h : Hp) : Option ((Int32 × Hp) ⊕ (Hp)) :=
  if 8 ≤ x3 then ((f7_readBox_162 x2 h).map (fun z => .inr (z))) else ((f7_takeNumber 0 9 h).bind fun (r35, h36) => gd (inb x3 8) <| lt (wI h36 (x2 + 1) (ix x3) r35) fun h38 => gd (inb x3 8) <| if h38.1 (x2 + 1) (ix x3) ≤ 0 then (f7_readBox_152 x2 x3 0 (h38.1 x2 3) x2 h38) else (f7_readBox_152 x2 x3 1 (h38.1 x2 3) x2 h38))
set_option maxRecDepth 100000 in
set_option maxHeartbeats 4000000 in
theorem k_f7_readBox_114_s {x : Mx} {l : Launch} {post0 : Option Value → Hp → Prop} (C : Cx ΛC x l RX7 cX7_readBox rm_f7_readBox none 4 post0) {K : (Int32 × Hp) ⊕ (Hp) → Prop} (x2 : Nat) (x3 : Int32) (kx2 : kdC x2 = 0) (h : Hp) (hR : ∀ h : Hp, K (.inr h) → post0 none h) (hL114 : ∀ (x3 : Int32) (h : Hp), K (.inl (x3, h)) → G ΛC x 114 [(0, .ref 3), (2, .ref x2), (3, .int x3)] [] h) (T : Tt (f7_readBox_114_s x2 x3 h) K) : G ΛC x 114 [(0, .ref 3), (2, .ref x2), (3, .int x3)] [] h := by
  refine g_iload_n (q := 2) C dX7_readBox_114 rfl rfl ?_
  refine g_bipush (v := 8) C dX7_readBox_115 (by decide) ?_
  refine g_icmp_ge (tgt := 162) C dX7_readBox_117 (by decide) (fun c29 => ?_) (fun c29 => ?_)
  · have T := tt_t T c29
    refine g_sub [0, 1] rfl ?_
    exact k_f7_readBox_162 C x2 kx2 h hR (tt_map T)
  · have T := tt_f T c29
    refine g_aload_n (q := 1) C dX7_readBox_120 rfl rfl ?_
    refine g_getF (k := 0) (q := x2 + 1) C dX7_readBox_121 (hpC kx2 rfl) kx2 fl_X7_132 rfl rfl ?_
    refine g_iload_n (q := 2) C dX7_readBox_124 rfl rfl ?_
    refine g_aload_n (q := 0) C dX7_readBox_125 rfl rfl ?_
    refine g_iconst (v := 0) C dX7_readBox_126 (by decide) ?_
    refine g_bipush (v := 9) C dX7_readBox_127 (by decide) ?_
    refine g_callV (p := 3) (As := [.int 0, .int 9]) C dX7_readBox_129 ml_X7_119 yv_f7_takeNumber ⟨rfl, rfl⟩ ⟨Nat.le_of_ble_eq_true rfl, Nat.le_of_ble_eq_true rfl⟩ (hpC rfl rfl) rfl rfl rfl (Nat.le_of_ble_eq_true rfl) (ok_f7_takeNumber 0 9 h (tt_bind T)) ?_
    rintro _ h36 ⟨r35, rfl, T⟩
    show G ΛC x 132 [(0, .ref 3), (2, .ref x2), (3, .int x3)] [.int r35, .int x3, .ref (x2 + 1)] h36
    obtain ⟨g37, T⟩ := tt_gd T
    obtain ⟨h38, eh38, T⟩ := tt_lt T
    refine g_iast C dX7_readBox_132 (hpC (kf_0_0 kx2) rfl) (kf_0_0 kx2) (inb_of (lf_0_0 kx2) g37) eh38 ?_
    refine g_aload_n (q := 1) C dX7_readBox_133 rfl rfl ?_
    refine g_dup C dX7_readBox_134 rfl ?_
    refine g_getI (k := 3) C dX7_readBox_135 (hpC kx2 rfl) kx2 fl_X7_129 rfl ?_
    refine g_aload_n (q := 1) C dX7_readBox_138 rfl rfl ?_
    refine g_getF (k := 0) (q := x2 + 1) C dX7_readBox_139 (hpC kx2 rfl) kx2 fl_X7_132 rfl rfl ?_
    refine g_iload_n (q := 2) C dX7_readBox_142 rfl rfl ?_
    obtain ⟨g39, T⟩ := tt_gd T
    refine g_iald C dX7_readBox_143 (hpC (kf_0_0 kx2) rfl) (kf_0_0 kx2) (inb_of (lf_0_0 kx2) g39) ?_
    refine g_if_le (tgt := 151) C dX7_readBox_144 (by decide) (fun c40 => ?_) (fun c40 => ?_)
    · have T := tt_t T c40
      refine g_iconst (v := 0) C dX7_readBox_151 (by decide) ?_
      exact k_f7_readBox_152 C x2 x3 0 (h38.1 x2 3) x2 kx2 kx2 h38 hR hL114 T
    · have T := tt_f T c40
      refine g_iconst (v := 1) C dX7_readBox_147 (by decide) ?_
      refine g_goto (tgt := 152) C dX7_readBox_148 (by decide) ?_
      exact k_f7_readBox_152 C x2 x3 1 (h38.1 x2 3) x2 kx2 kx2 h38 hR hL114 T

noncomputable def f7_readBox_114 (x2 : Nat) (x3 : Int32) (h : Hp) : Option (Hp) := lp (fun z : Int32 × Hp => f7_readBox_114_s x2 z.1 z.2) (x3, h)
theorem k_f7_readBox_114 {x : Mx} {l : Launch} {post0 : Option Value → Hp → Prop} (C : Cx ΛC x l RX7 cX7_readBox rm_f7_readBox none 4 post0) {K : Hp → Prop} (x2 : Nat) (x3 : Int32) (kx2 : kdC x2 = 0) (h : Hp) (hR : ∀ h : Hp, K h → post0 none h) (T : Tt (f7_readBox_114 x2 x3 h) K) : G ΛC x 114 [(0, .ref 3), (2, .ref x2), (3, .int x3)] [] h :=
  lp_ind (f := fun z : Int32 × Hp => f7_readBox_114_s x2 z.1 z.2) (P := fun z : Int32 × Hp => G ΛC x 114 [(0, .ref 3), (2, .ref x2), (3, .int z.1)] [] z.2) (K := K) (fun z T => k_f7_readBox_114_s C (K := KS (fun z : Int32 × Hp => G ΛC x 114 [(0, .ref 3), (2, .ref x2), (3, .int z.1)] [] z.2) K) x2 z.1 kx2 z.2 hR (fun _ _ q => q) T) (x3, h) T
noncomputable def f7_readBox_49 (x1 : Int32) (s0 : Int32) (h : Hp) : Option (Hp) :=
  (f7_check s0 3 h).bind fun h12 => (f7_step h12).bind fun h13 => if h13.1 3 3 = 0 then ((h13.2.2 3 2).bind fun p15 => gd (decide (kdC p15 = 10)) <| (h13.2.2 3 2).bind fun p17 => gd (decide (kdC p17 = 10)) <| gd (inb (h13.1 p17 5) 6) <| lt (p15 + 1 + 1 + 2 * ix (h13.1 p17 5)) fun p20 => lt (wI h13 p20 1 x1) fun h21 => (f7_takeNumber 0 99 h21).bind fun (r22, h23) => lt (wI h23 p20 5 r22) fun h24 => (f7_takeNumber 1 9 h24).bind fun (r25, h26) => lt (wI h26 p20 2 r25) fun h27 => lt (wI h27 p20 3 0) fun h28 => f7_readBox_114 p20 0 h28) else (some (h13))
set_option maxRecDepth 100000 in
set_option maxHeartbeats 4000000 in
theorem k_f7_readBox_49 {x : Mx} {l : Launch} {post0 : Option Value → Hp → Prop} (C : Cx ΛC x l RX7 cX7_readBox rm_f7_readBox none 4 post0) {K : Hp → Prop} (x1 : Int32) (s0 : Int32) (h : Hp) (hR : ∀ h : Hp, K h → post0 none h) (T : Tt (f7_readBox_49 x1 s0 h) K) : G ΛC x 49 [(0, .ref 3), (1, .int x1)] [.int s0, .ref 3] h := by
  refine g_iconst (v := 3) C dX7_readBox_49 (by decide) ?_
  refine g_callV (p := 3) (As := [.int s0, .int 3]) C dX7_readBox_50 ml_X7_92 yv_f7_check ⟨rfl, rfl⟩ ⟨Nat.le_of_ble_eq_true rfl, Nat.le_of_ble_eq_true rfl⟩ (hpC rfl rfl) rfl rfl rfl (Nat.le_of_ble_eq_true rfl) (ok_f7_check s0 3 h (tt_bind T)) ?_
  rintro _ h12 ⟨rfl, T⟩
  show G ΛC x 53 [(0, .ref 3), (1, .int x1)] [] h12
  refine g_aload_n (q := 0) C dX7_readBox_53 rfl rfl ?_
  refine g_callV (p := 3) (As := []) C dX7_readBox_54 ml_X7_96 yv_f7_step ⟨rfl, rfl⟩ ⟨Nat.le_of_ble_eq_true rfl, Nat.le_of_ble_eq_true rfl⟩ (hpC rfl rfl) rfl rfl rfl (Nat.le_of_ble_eq_true rfl) (ok_f7_step h12 (tt_bind T)) ?_
  rintro _ h13 ⟨rfl, T⟩
  show G ΛC x 57 [(0, .ref 3), (1, .int x1)] [] h13
  refine g_aload_n (q := 0) C dX7_readBox_57 rfl rfl ?_
  refine g_getI (k := 3) C dX7_readBox_58 (hpC rfl rfl) rfl fl_X7_9 rfl ?_
  refine g_if_ne (tgt := 185) C dX7_readBox_61 (by decide) (fun c14 => ?_) (fun c14 => ?_)
  · have T := tt_f T c14
    exact g_vret C dX7_readBox_185 (hR _ (tt_some T))
  · have T := tt_t T c14
    refine g_aload_n (q := 0) C dX7_readBox_64 rfl rfl ?_
    obtain ⟨p15, ep15, T⟩ := tt_bind T
    obtain ⟨g16, T⟩ := tt_gd T
    have kp15 : kdC p15 = 10 := of_decide_eq_true g16
    refine g_getD (k := 2) (q := p15) C dX7_readBox_65 (hpC rfl rfl) rfl fl_X7_31 rfl ep15 ?_
    refine g_getF (k := 0) (q := p15 + 1) C dX7_readBox_68 (hpC kp15 rfl) kp15 fl_X7_110 rfl rfl ?_
    refine g_aload_n (q := 0) C dX7_readBox_71 rfl rfl ?_
    obtain ⟨p17, ep17, T⟩ := tt_bind T
    obtain ⟨g18, T⟩ := tt_gd T
    have kp17 : kdC p17 = 10 := of_decide_eq_true g18
    refine g_getD (k := 2) (q := p17) C dX7_readBox_72 (hpC rfl rfl) rfl fl_X7_31 rfl ep17 ?_
    refine g_getI (k := 5) C dX7_readBox_75 (hpC kp17 rfl) kp17 fl_X7_99 rfl ?_
    obtain ⟨g19, T⟩ := tt_gd T
    refine g_aald (q := p15 + 1 + 1 + 2 * ix (h13.1 p17 5)) C dX7_readBox_78 (hpC (kf_10_0 kp15) rfl) (kf_10_0 kp15) (inb_of (lf_10_0 kp15) g19) rfl ?_
    obtain ⟨p20, ep20, T⟩ := tt_lt T
    have kp20 : kdC p20 = 0 := by rw [ep20]; exact kboxC (kf_10_0 kp15) g19
    refine g_nameR ep20 ?_
    refine g_astore_n (L' := [(2, .ref p20), (0, .ref 3), (1, .int x1)]) C dX7_readBox_79 rfl (by decide) rfl ?_
    refine g_aload_n (q := 0) C dX7_readBox_80 rfl rfl ?_
    refine g_iload_n (q := 2) C dX7_readBox_81 rfl rfl ?_
    obtain ⟨h21, eh21, T⟩ := tt_lt T
    refine g_putI (k := 1) C dX7_readBox_82 (hpC kp20 rfl) kp20 fp_X7_114 rfl eh21 ?_
    refine g_aload_n (q := 0) C dX7_readBox_85 rfl rfl ?_
    refine g_aload_n (q := 1) C dX7_readBox_86 rfl rfl ?_
    refine g_iconst (v := 0) C dX7_readBox_87 (by decide) ?_
    refine g_bipush (v := 99) C dX7_readBox_88 (by decide) ?_
    refine g_callV (p := 3) (As := [.int 0, .int 99]) C dX7_readBox_90 ml_X7_119 yv_f7_takeNumber ⟨rfl, rfl⟩ ⟨Nat.le_of_ble_eq_true rfl, Nat.le_of_ble_eq_true rfl⟩ (hpC rfl rfl) rfl rfl rfl (Nat.le_of_ble_eq_true rfl) (ok_f7_takeNumber 0 99 h21 (tt_bind T)) ?_
    rintro _ h23 ⟨r22, rfl, T⟩
    show G ΛC x 93 [(2, .ref p20), (0, .ref 3), (1, .int x1)] [.int r22, .ref p20] h23
    obtain ⟨h24, eh24, T⟩ := tt_lt T
    refine g_putI (k := 5) C dX7_readBox_93 (hpC kp20 rfl) kp20 fp_X7_123 rfl eh24 ?_
    refine g_aload_n (q := 0) C dX7_readBox_96 rfl rfl ?_
    refine g_aload_n (q := 1) C dX7_readBox_97 rfl rfl ?_
    refine g_iconst (v := 1) C dX7_readBox_98 (by decide) ?_
    refine g_bipush (v := 9) C dX7_readBox_99 (by decide) ?_
    refine g_callV (p := 3) (As := [.int 1, .int 9]) C dX7_readBox_101 ml_X7_119 yv_f7_takeNumber ⟨rfl, rfl⟩ ⟨Nat.le_of_ble_eq_true rfl, Nat.le_of_ble_eq_true rfl⟩ (hpC rfl rfl) rfl rfl rfl (Nat.le_of_ble_eq_true rfl) (ok_f7_takeNumber 1 9 h24 (tt_bind T)) ?_
    rintro _ h26 ⟨r25, rfl, T⟩
    show G ΛC x 104 [(2, .ref p20), (0, .ref 3), (1, .int x1)] [.int r25, .ref p20] h26
    obtain ⟨h27, eh27, T⟩ := tt_lt T
    refine g_putI (k := 2) C dX7_readBox_104 (hpC kp20 rfl) kp20 fp_X7_126 rfl eh27 ?_
    refine g_aload_n (q := 0) C dX7_readBox_107 rfl rfl ?_
    refine g_iconst (v := 0) C dX7_readBox_108 (by decide) ?_
    obtain ⟨h28, eh28, T⟩ := tt_lt T
    refine g_putI (k := 3) C dX7_readBox_109 (hpC kp20 rfl) kp20 fp_X7_129 rfl eh28 ?_
    refine g_iconst (v := 0) C dX7_readBox_112 (by decide) ?_
    refine g_istore_n (L' := [(3, .int 0), (2, .ref p20), (0, .ref 3), (1, .int x1)]) C dX7_readBox_113 rfl (by decide) rfl ?_
    refine g_sub [2, 1, 0] rfl ?_
    exact k_f7_readBox_114 C p20 0 kp20 h28 hR T

noncomputable def f7_readBox_18 (s0 : Int32) (h : Hp) : Option (Hp) :=
  (f7_check s0 2 h).bind fun h4 => (f7_step h4).bind fun h5 => (f7_takeName h5).bind fun (r6, h7) => (h7.2.2 3 2).bind fun p8 => gd (decide (kdC p8 = 10)) <| (f10_boxNamed p8 r6 h7).bind fun r10 => if r10 = (-1) then (f7_readBox_49 r6 1 h7) else (f7_readBox_49 r6 0 h7)
set_option maxRecDepth 100000 in
set_option maxHeartbeats 4000000 in
theorem k_f7_readBox_18 {x : Mx} {l : Launch} {post0 : Option Value → Hp → Prop} (C : Cx ΛC x l RX7 cX7_readBox rm_f7_readBox none 4 post0) {K : Hp → Prop} (s0 : Int32) (h : Hp) (hR : ∀ h : Hp, K h → post0 none h) (T : Tt (f7_readBox_18 s0 h) K) : G ΛC x 18 [(0, .ref 3)] [.int s0, .ref 3] h := by
  refine g_iconst (v := 2) C dX7_readBox_18 (by decide) ?_
  refine g_callV (p := 3) (As := [.int s0, .int 2]) C dX7_readBox_19 ml_X7_92 yv_f7_check ⟨rfl, rfl⟩ ⟨Nat.le_of_ble_eq_true rfl, Nat.le_of_ble_eq_true rfl⟩ (hpC rfl rfl) rfl rfl rfl (Nat.le_of_ble_eq_true rfl) (ok_f7_check s0 2 h (tt_bind T)) ?_
  rintro _ h4 ⟨rfl, T⟩
  show G ΛC x 22 [(0, .ref 3)] [] h4
  refine g_aload_n (q := 0) C dX7_readBox_22 rfl rfl ?_
  refine g_callV (p := 3) (As := []) C dX7_readBox_23 ml_X7_96 yv_f7_step ⟨rfl, rfl⟩ ⟨Nat.le_of_ble_eq_true rfl, Nat.le_of_ble_eq_true rfl⟩ (hpC rfl rfl) rfl rfl rfl (Nat.le_of_ble_eq_true rfl) (ok_f7_step h4 (tt_bind T)) ?_
  rintro _ h5 ⟨rfl, T⟩
  show G ΛC x 26 [(0, .ref 3)] [] h5
  refine g_aload_n (q := 0) C dX7_readBox_26 rfl rfl ?_
  refine g_callV (p := 3) (As := []) C dX7_readBox_27 ml_X7_102 yv_f7_takeName ⟨rfl, rfl⟩ ⟨Nat.le_of_ble_eq_true rfl, Nat.le_of_ble_eq_true rfl⟩ (hpC rfl rfl) rfl rfl rfl (Nat.le_of_ble_eq_true rfl) (ok_f7_takeName h5 (tt_bind T)) ?_
  rintro _ h7 ⟨r6, rfl, T⟩
  show G ΛC x 30 [(0, .ref 3)] [.int r6] h7
  refine g_istore_n (L' := [(1, .int r6), (0, .ref 3)]) C dX7_readBox_30 rfl (by decide) rfl ?_
  refine g_aload_n (q := 1) C dX7_readBox_31 rfl rfl ?_
  refine g_aload_n (q := 1) C dX7_readBox_32 rfl rfl ?_
  obtain ⟨p8, ep8, T⟩ := tt_bind T
  obtain ⟨g9, T⟩ := tt_gd T
  have kp8 : kdC p8 = 10 := of_decide_eq_true g9
  refine g_getD (k := 2) (q := p8) C dX7_readBox_33 (hpC rfl rfl) rfl fl_X7_31 rfl ep8 ?_
  refine g_iload_n (q := 0) C dX7_readBox_36 rfl rfl ?_
  refine g_callV (p := p8) (As := [.int r6]) C dX7_readBox_37 ml_X7_106 yv_f10_boxNamed ⟨rfl, rfl⟩ ⟨Nat.le_of_ble_eq_true rfl, Nat.le_of_ble_eq_true rfl⟩ (hpC kp8 rfl) kp8 rfl rfl (Nat.le_of_ble_eq_true rfl) (ok_f10_boxNamed p8 r6 kp8 h7 (tt_bind T)) ?_
  rintro _ _ ⟨r10, rfl, rfl, T⟩
  show G ΛC x 40 [(1, .int r6), (0, .ref 3)] [.int r10, .ref 3] h7
  refine g_iconst (v := (-1)) C dX7_readBox_40 (by decide) ?_
  refine g_icmp_ne (tgt := 48) C dX7_readBox_41 (by decide) (fun c11 => ?_) (fun c11 => ?_)
  · have T := tt_f T c11
    refine g_iconst (v := 0) C dX7_readBox_48 (by decide) ?_
    refine g_sub [1, 0] rfl ?_
    exact k_f7_readBox_49 C r6 0 h7 hR T
  · have T := tt_t T c11
    refine g_iconst (v := 1) C dX7_readBox_44 (by decide) ?_
    refine g_goto (tgt := 49) C dX7_readBox_45 (by decide) ?_
    refine g_sub [1, 0] rfl ?_
    exact k_f7_readBox_49 C r6 1 h7 hR T

noncomputable def f7_readBox (h : Hp) : Option (Hp) :=
  (h.2.2 3 2).bind fun p1 => gd (decide (kdC p1 = 10)) <| if 6 ≤ h.1 p1 5 then (f7_readBox_18 0 h) else (f7_readBox_18 1 h)
set_option maxRecDepth 100000 in
set_option maxHeartbeats 4000000 in
theorem k_f7_readBox {x : Mx} {l : Launch} {post0 : Option Value → Hp → Prop} (C : Cx ΛC x l RX7 cX7_readBox rm_f7_readBox none 4 post0) {K : Hp → Prop} (h : Hp) (hR : ∀ h : Hp, K h → post0 none h) (T : Tt (f7_readBox h) K) : G ΛC x 0 [(0, .ref 3)] [] h := by
  refine g_aload_n (q := 0) C dX7_readBox_0 rfl rfl ?_
  refine g_aload_n (q := 0) C dX7_readBox_1 rfl rfl ?_
  obtain ⟨p1, ep1, T⟩ := tt_bind T
  obtain ⟨g2, T⟩ := tt_gd T
  have kp1 : kdC p1 = 10 := of_decide_eq_true g2
  refine g_getD (k := 2) (q := p1) C dX7_readBox_2 (hpC rfl rfl) rfl fl_X7_31 rfl ep1 ?_
  refine g_getI (k := 5) C dX7_readBox_5 (hpC kp1 rfl) kp1 fl_X7_99 rfl ?_
  refine g_bipush (v := 6) C dX7_readBox_8 (by decide) ?_
  refine g_icmp_ge (tgt := 17) C dX7_readBox_10 (by decide) (fun c3 => ?_) (fun c3 => ?_)
  · have T := tt_t T c3
    refine g_iconst (v := 0) C dX7_readBox_17 (by decide) ?_
    exact k_f7_readBox_18 C 0 h hR T
  · have T := tt_f T c3
    refine g_iconst (v := 1) C dX7_readBox_13 (by decide) ?_
    refine g_goto (tgt := 18) C dX7_readBox_14 (by decide) ?_
    exact k_f7_readBox_18 C 1 h hR T

theorem ok_f7_readBox {l : Launch} {K : Hp → Prop} (h : Hp) (T : Tt (f7_readBox h) K) : Ok ΛC l yX7_readBox cX7_readBox 4 none rm_f7_readBox [.ref 3] h (PVw K) :=
  Ok.of RX7 rfl (by decide) ⟨rfl, rfl⟩ (Nat.le_of_ble_eq_true rfl) (fun x C => k_f7_readBox C h (fun _ q => ⟨rfl, q⟩) T)

abbrev rm_f7_takeBox : Room := { frames := 3, cells := 0, slots := 0, locals := 63 }
noncomputable def f7_takeBox_23 (x1 : Int32) (s0 : Int32) (h : Hp) : Option (Int32 × Hp) :=
  (f7_check s0 4 h).bind fun h7 => some (x1, h7)
set_option maxRecDepth 100000 in
set_option maxHeartbeats 4000000 in
theorem k_f7_takeBox_23 {x : Mx} {l : Launch} {post0 : Option Value → Hp → Prop} (C : Cx ΛC x l RX7 cX7_takeBox rm_f7_takeBox (some .int) 2 post0) {K : Int32 × Hp → Prop} (x1 : Int32) (s0 : Int32) (h : Hp) (hR : ∀ (v : Int32) (h : Hp), K (v, h) → post0 (some (.int v)) h) (T : Tt (f7_takeBox_23 x1 s0 h) K) : G ΛC x 23 [(1, .int x1)] [.int s0, .ref 3] h := by
  refine g_iconst (v := 4) C dX7_takeBox_23 (by decide) ?_
  refine g_callV (p := 3) (As := [.int s0, .int 4]) C dX7_takeBox_24 ml_X7_92 yv_f7_check ⟨rfl, rfl⟩ ⟨Nat.le_of_ble_eq_true rfl, Nat.le_of_ble_eq_true rfl⟩ (hpC rfl rfl) rfl rfl rfl (Nat.le_of_ble_eq_true rfl) (ok_f7_check s0 4 h (tt_bind T)) ?_
  rintro _ h7 ⟨rfl, T⟩
  show G ΛC x 27 [(1, .int x1)] [] h7
  refine g_iload_n (q := 0) C dX7_takeBox_27 rfl rfl ?_
  exact g_iret C dX7_takeBox_28 (hR _ _ (tt_some T))

noncomputable def f7_takeBox (h : Hp) : Option (Int32 × Hp) :=
  (h.2.2 3 2).bind fun p1 => gd (decide (kdC p1 = 10)) <| (f7_takeName h).bind fun (r3, h4) => (f10_boxNamed p1 r3 h4).bind fun r5 => if r5 = (-1) then (f7_takeBox_23 r5 0 h4) else (f7_takeBox_23 r5 1 h4)
set_option maxRecDepth 100000 in
set_option maxHeartbeats 4000000 in
theorem k_f7_takeBox {x : Mx} {l : Launch} {post0 : Option Value → Hp → Prop} (C : Cx ΛC x l RX7 cX7_takeBox rm_f7_takeBox (some .int) 2 post0) {K : Int32 × Hp → Prop} (h : Hp) (hR : ∀ (v : Int32) (h : Hp), K (v, h) → post0 (some (.int v)) h) (T : Tt (f7_takeBox h) K) : G ΛC x 0 [(0, .ref 3)] [] h := by
  refine g_aload_n (q := 0) C dX7_takeBox_0 rfl rfl ?_
  obtain ⟨p1, ep1, T⟩ := tt_bind T
  obtain ⟨g2, T⟩ := tt_gd T
  have kp1 : kdC p1 = 10 := of_decide_eq_true g2
  refine g_getD (k := 2) (q := p1) C dX7_takeBox_1 (hpC rfl rfl) rfl fl_X7_31 rfl ep1 ?_
  refine g_aload_n (q := 0) C dX7_takeBox_4 rfl rfl ?_
  refine g_callV (p := 3) (As := []) C dX7_takeBox_5 ml_X7_102 yv_f7_takeName ⟨rfl, rfl⟩ ⟨Nat.le_of_ble_eq_true rfl, Nat.le_of_ble_eq_true rfl⟩ (hpC rfl rfl) rfl rfl rfl (Nat.le_of_ble_eq_true rfl) (ok_f7_takeName h (tt_bind T)) ?_
  rintro _ h4 ⟨r3, rfl, T⟩
  show G ΛC x 8 [(0, .ref 3)] [.int r3, .ref p1] h4
  refine g_callV (p := p1) (As := [.int r3]) C dX7_takeBox_8 ml_X7_106 yv_f10_boxNamed ⟨rfl, rfl⟩ ⟨Nat.le_of_ble_eq_true rfl, Nat.le_of_ble_eq_true rfl⟩ (hpC kp1 rfl) kp1 rfl rfl (Nat.le_of_ble_eq_true rfl) (ok_f10_boxNamed p1 r3 kp1 h4 (tt_bind T)) ?_
  rintro _ _ ⟨r5, rfl, rfl, T⟩
  show G ΛC x 11 [(0, .ref 3)] [.int r5] h4
  refine g_istore_n (L' := [(1, .int r5), (0, .ref 3)]) C dX7_takeBox_11 rfl (by decide) rfl ?_
  refine g_aload_n (q := 1) C dX7_takeBox_12 rfl rfl ?_
  refine g_iload_n (q := 0) C dX7_takeBox_13 rfl rfl ?_
  refine g_iconst (v := (-1)) C dX7_takeBox_14 (by decide) ?_
  refine g_icmp_eq (tgt := 22) C dX7_takeBox_15 (by decide) (fun c6 => ?_) (fun c6 => ?_)
  · have T := tt_t T c6
    refine g_iconst (v := 0) C dX7_takeBox_22 (by decide) ?_
    refine g_sub [0] rfl ?_
    exact k_f7_takeBox_23 C r5 0 h4 hR T
  · have T := tt_f T c6
    refine g_iconst (v := 1) C dX7_takeBox_18 (by decide) ?_
    refine g_goto (tgt := 23) C dX7_takeBox_19 (by decide) ?_
    refine g_sub [0] rfl ?_
    exact k_f7_takeBox_23 C r5 1 h4 hR T

theorem ok_f7_takeBox {l : Launch} {K : Int32 × Hp → Prop} (h : Hp) (T : Tt (f7_takeBox h) K) : Ok ΛC l yX7_takeBox cX7_takeBox 2 (some .int) rm_f7_takeBox [.ref 3] h (PIw K) :=
  Ok.of RX7 rfl (by decide) ⟨rfl, rfl⟩ (Nat.le_of_ble_eq_true rfl) (fun x C => k_f7_takeBox C h (fun v _ q => ⟨v, rfl, q⟩) T)

abbrev rm_f0_misses : Room := { frames := 0, cells := 0, slots := 0, locals := 0 }
noncomputable def f0_misses (x0 : Nat) (x1 : Int32) (h : Hp) : Option (Int32) :=
  if ((h.1 x0 9) >>> (x1 &&& 31)) &&& 1 = 1 then (some 1) else (some 0)
set_option maxRecDepth 100000 in
set_option maxHeartbeats 4000000 in
theorem k_f0_misses {x : Mx} {l : Launch} {post0 : Option Value → Hp → Prop} (C : Cx ΛC x l RX0 cX0_misses rm_f0_misses (some .boolean) 2 post0) {K : Int32 → Prop} (x0 : Nat) (x1 : Int32) (kx0 : kdC x0 = 0) (h : Hp) (hR : ∀ v : Int32, K v → post0 (some (.int v)) h) (T : Tt (f0_misses x0 x1 h) K) : G ΛC x 0 [(0, .ref x0), (1, .int x1)] [] h := by
  refine g_aload_n (q := 0) C dX0_misses_0 rfl rfl ?_
  refine g_getI (k := 9) C dX0_misses_1 (hpC kx0 rfl) kx0 fl_X0_46 rfl ?_
  refine g_iload_n (q := 1) C dX0_misses_4 rfl rfl ?_
  refine g_ishr C dX0_misses_5 ?_
  refine g_iconst (v := 1) C dX0_misses_6 (by decide) ?_
  refine g_iand C dX0_misses_7 ?_
  refine g_iconst (v := 1) C dX0_misses_8 (by decide) ?_
  refine g_icmp_ne (tgt := 16) C dX0_misses_9 (by decide) (fun c1 => ?_) (fun c1 => ?_)
  · have T := tt_f T c1
    refine g_iconst (v := 0) C dX0_misses_16 (by decide) ?_
    exact g_zret C dX0_misses_17 (Or.inl rfl) (hR _ (tt_some T))
  · have T := tt_t T c1
    refine g_iconst (v := 1) C dX0_misses_12 (by decide) ?_
    refine g_goto (tgt := 17) C dX0_misses_13 (by decide) ?_
    exact g_zret C dX0_misses_17 (Or.inr rfl) (hR _ (tt_some T))

theorem ok_f0_misses {l : Launch} {K : Int32 → Prop} (x0 : Nat) (x1 : Int32) (kx0 : kdC x0 = 0) (h : Hp) (T : Tt (f0_misses x0 x1 h) K) : Ok ΛC l yX0_misses cX0_misses 2 (some .boolean) rm_f0_misses [.ref x0, .int x1] h (PIs K h) :=
  Ok.of RX0 rfl (by decide) ⟨rfl, rfl⟩ (Nat.le_of_ble_eq_true rfl) (fun x C => k_f0_misses C x0 x1 kx0 h (fun v q => ⟨v, rfl, rfl, q⟩) T)

abbrev rm_f7_readTooth : Room := { frames := 4, cells := 0, slots := 0, locals := 84 }
noncomputable def f7_readTooth_116 (h : Hp) : Option (Hp) :=
  (f7_step h).bind fun h12 => some (h12)
set_option maxRecDepth 100000 in
set_option maxHeartbeats 4000000 in
theorem k_f7_readTooth_116 {x : Mx} {l : Launch} {post0 : Option Value → Hp → Prop} (C : Cx ΛC x l RX7 cX7_readTooth rm_f7_readTooth none 3 post0) {K : Hp → Prop} (h : Hp) (hR : ∀ h : Hp, K h → post0 none h) (T : Tt (f7_readTooth_116 h) K) : G ΛC x 116 [(0, .ref 3)] [] h := by
  refine g_aload_n (q := 0) C dX7_readTooth_116 rfl rfl ?_
  refine g_callV (p := 3) (As := []) C dX7_readTooth_117 ml_X7_96 yv_f7_step ⟨rfl, rfl⟩ ⟨Nat.le_of_ble_eq_true rfl, Nat.le_of_ble_eq_true rfl⟩ (hpC rfl rfl) rfl rfl rfl (Nat.le_of_ble_eq_true rfl) (ok_f7_step h (tt_bind T)) ?_
  rintro _ h12 ⟨rfl, T⟩
  show G ΛC x 120 [(0, .ref 3)] [] h12
  exact g_vret C dX7_readTooth_120 (hR _ (tt_some T))

noncomputable def f7_readTooth_79 (x1 : Int32) (x2 : Int32) (s0 : Int32) (h : Hp) : Option (Hp) :=
  (f7_check s0 3 h).bind fun h18 => (h18.2.2 3 2).bind fun p19 => gd (decide (kdC p19 = 10)) <| gd (inb x1 6) <| lt (wI h18 (p19 + 1 + 1 + 2 * ix x1) 9 ((h18.1 (p19 + 1 + 1 + 2 * ix x1) 9) ||| (1 <<< (x2 &&& 31)))) fun h22 => (h22.2.2 3 2).bind fun p23 => gd (decide (kdC p23 = 10)) <| lt (wI h22 p23 6 ((h22.1 p23 6) + 1)) fun h25 => f7_readTooth_116 h25
set_option maxRecDepth 100000 in
set_option maxHeartbeats 4000000 in
theorem k_f7_readTooth_79 {x : Mx} {l : Launch} {post0 : Option Value → Hp → Prop} (C : Cx ΛC x l RX7 cX7_readTooth rm_f7_readTooth none 3 post0) {K : Hp → Prop} (x1 : Int32) (x2 : Int32) (s0 : Int32) (h : Hp) (hR : ∀ h : Hp, K h → post0 none h) (T : Tt (f7_readTooth_79 x1 x2 s0 h) K) : G ΛC x 79 [(0, .ref 3), (1, .int x1), (2, .int x2)] [.int s0, .ref 3] h := by
  refine g_iconst (v := 3) C dX7_readTooth_79 (by decide) ?_
  refine g_callV (p := 3) (As := [.int s0, .int 3]) C dX7_readTooth_80 ml_X7_92 yv_f7_check ⟨rfl, rfl⟩ ⟨Nat.le_of_ble_eq_true rfl, Nat.le_of_ble_eq_true rfl⟩ (hpC rfl rfl) rfl rfl rfl (Nat.le_of_ble_eq_true rfl) (ok_f7_check s0 3 h (tt_bind T)) ?_
  rintro _ h18 ⟨rfl, T⟩
  show G ΛC x 83 [(0, .ref 3), (1, .int x1), (2, .int x2)] [] h18
  refine g_aload_n (q := 0) C dX7_readTooth_83 rfl rfl ?_
  obtain ⟨p19, ep19, T⟩ := tt_bind T
  obtain ⟨g20, T⟩ := tt_gd T
  have kp19 : kdC p19 = 10 := of_decide_eq_true g20
  refine g_getD (k := 2) (q := p19) C dX7_readTooth_84 (hpC rfl rfl) rfl fl_X7_31 rfl ep19 ?_
  refine g_getF (k := 0) (q := p19 + 1) C dX7_readTooth_87 (hpC kp19 rfl) kp19 fl_X7_110 rfl rfl ?_
  refine g_iload_n (q := 1) C dX7_readTooth_90 rfl rfl ?_
  obtain ⟨g21, T⟩ := tt_gd T
  refine g_aald (q := p19 + 1 + 1 + 2 * ix x1) C dX7_readTooth_91 (hpC (kf_10_0 kp19) rfl) (kf_10_0 kp19) (inb_of (lf_10_0 kp19) g21) rfl ?_
  refine g_dup C dX7_readTooth_92 rfl ?_
  refine g_getI (k := 9) C dX7_readTooth_93 (hpC (kboxC (kf_10_0 kp19) g21) rfl) (kboxC (kf_10_0 kp19) g21) fl_X7_136 rfl ?_
  refine g_iconst (v := 1) C dX7_readTooth_96 (by decide) ?_
  refine g_iload_n (q := 2) C dX7_readTooth_97 rfl rfl ?_
  refine g_ishl C dX7_readTooth_98 ?_
  refine g_ior C dX7_readTooth_99 ?_
  obtain ⟨h22, eh22, T⟩ := tt_lt T
  refine g_putI (k := 9) C dX7_readTooth_100 (hpC (kboxC (kf_10_0 kp19) g21) rfl) (kboxC (kf_10_0 kp19) g21) fp_X7_136 rfl eh22 ?_
  refine g_aload_n (q := 0) C dX7_readTooth_103 rfl rfl ?_
  obtain ⟨p23, ep23, T⟩ := tt_bind T
  obtain ⟨g24, T⟩ := tt_gd T
  have kp23 : kdC p23 = 10 := of_decide_eq_true g24
  refine g_getD (k := 2) (q := p23) C dX7_readTooth_104 (hpC rfl rfl) rfl fl_X7_31 rfl ep23 ?_
  refine g_dup C dX7_readTooth_107 rfl ?_
  refine g_getI (k := 6) C dX7_readTooth_108 (hpC kp23 rfl) kp23 fl_X7_142 rfl ?_
  refine g_iconst (v := 1) C dX7_readTooth_111 (by decide) ?_
  refine g_iadd C dX7_readTooth_112 ?_
  obtain ⟨h25, eh25, T⟩ := tt_lt T
  refine g_putI (k := 6) C dX7_readTooth_113 (hpC kp23 rfl) kp23 fp_X7_142 rfl eh25 ?_
  refine g_sub [0] rfl ?_
  exact k_f7_readTooth_116 C h25 hR T

noncomputable def f7_readTooth_18 (s0 : Int32) (h : Hp) : Option (Hp) :=
  (f7_check s0 2 h).bind fun h4 => (f7_step h4).bind fun h5 => (f7_takeBox h5).bind fun (r6, h7) => (f7_step h7).bind fun h8 => lt (h8.1 1 6) fun v9 => (f7_checkNumber 1 9 h8).bind fun h10 => if h10.1 3 3 = 0 then ((h10.2.2 3 2).bind fun p13 => gd (decide (kdC p13 = 10)) <| gd (inb r6 6) <| (f0_misses (p13 + 1 + 1 + 2 * ix r6) v9 h10).bind fun r16 => if r16 = 0 then (f7_readTooth_79 r6 v9 1 h10) else (f7_readTooth_79 r6 v9 0 h10)) else (f7_readTooth_116 h10)
set_option maxRecDepth 100000 in
set_option maxHeartbeats 4000000 in
theorem k_f7_readTooth_18 {x : Mx} {l : Launch} {post0 : Option Value → Hp → Prop} (C : Cx ΛC x l RX7 cX7_readTooth rm_f7_readTooth none 3 post0) {K : Hp → Prop} (s0 : Int32) (h : Hp) (hR : ∀ h : Hp, K h → post0 none h) (T : Tt (f7_readTooth_18 s0 h) K) : G ΛC x 18 [(0, .ref 3)] [.int s0, .ref 3] h := by
  refine g_iconst (v := 2) C dX7_readTooth_18 (by decide) ?_
  refine g_callV (p := 3) (As := [.int s0, .int 2]) C dX7_readTooth_19 ml_X7_92 yv_f7_check ⟨rfl, rfl⟩ ⟨Nat.le_of_ble_eq_true rfl, Nat.le_of_ble_eq_true rfl⟩ (hpC rfl rfl) rfl rfl rfl (Nat.le_of_ble_eq_true rfl) (ok_f7_check s0 2 h (tt_bind T)) ?_
  rintro _ h4 ⟨rfl, T⟩
  show G ΛC x 22 [(0, .ref 3)] [] h4
  refine g_aload_n (q := 0) C dX7_readTooth_22 rfl rfl ?_
  refine g_callV (p := 3) (As := []) C dX7_readTooth_23 ml_X7_96 yv_f7_step ⟨rfl, rfl⟩ ⟨Nat.le_of_ble_eq_true rfl, Nat.le_of_ble_eq_true rfl⟩ (hpC rfl rfl) rfl rfl rfl (Nat.le_of_ble_eq_true rfl) (ok_f7_step h4 (tt_bind T)) ?_
  rintro _ h5 ⟨rfl, T⟩
  show G ΛC x 26 [(0, .ref 3)] [] h5
  refine g_aload_n (q := 0) C dX7_readTooth_26 rfl rfl ?_
  refine g_callV (p := 3) (As := []) C dX7_readTooth_27 ml_X7_145 yv_f7_takeBox ⟨rfl, rfl⟩ ⟨Nat.le_of_ble_eq_true rfl, Nat.le_of_ble_eq_true rfl⟩ (hpC rfl rfl) rfl rfl rfl (Nat.le_of_ble_eq_true rfl) (ok_f7_takeBox h5 (tt_bind T)) ?_
  rintro _ h7 ⟨r6, rfl, T⟩
  show G ΛC x 30 [(0, .ref 3)] [.int r6] h7
  refine g_istore_n (L' := [(1, .int r6), (0, .ref 3)]) C dX7_readTooth_30 rfl (by decide) rfl ?_
  refine g_aload_n (q := 1) C dX7_readTooth_31 rfl rfl ?_
  refine g_callV (p := 3) (As := []) C dX7_readTooth_32 ml_X7_96 yv_f7_step ⟨rfl, rfl⟩ ⟨Nat.le_of_ble_eq_true rfl, Nat.le_of_ble_eq_true rfl⟩ (hpC rfl rfl) rfl rfl rfl (Nat.le_of_ble_eq_true rfl) (ok_f7_step h7 (tt_bind T)) ?_
  rintro _ h8 ⟨rfl, T⟩
  show G ΛC x 35 [(1, .int r6), (0, .ref 3)] [] h8
  refine g_aload_n (q := 1) C dX7_readTooth_35 rfl rfl ?_
  refine g_getA (k := 0) (q := 1) C dX7_readTooth_36 (hpC rfl rfl) rfl fl_X7_18 rfl rfl ?_
  refine g_getI (k := 6) C dX7_readTooth_39 (hpC rfl rfl) rfl fl_X7_64 rfl ?_
  obtain ⟨v9, ev9, T⟩ := tt_lt T
  refine g_nameI ev9 ?_
  refine g_istore_n (L' := [(2, .int v9), (1, .int r6), (0, .ref 3)]) C dX7_readTooth_42 rfl (by decide) rfl ?_
  refine g_aload_n (q := 2) C dX7_readTooth_43 rfl rfl ?_
  refine g_iconst (v := 1) C dX7_readTooth_44 (by decide) ?_
  refine g_bipush (v := 9) C dX7_readTooth_45 (by decide) ?_
  refine g_callV (p := 3) (As := [.int 1, .int 9]) C dX7_readTooth_47 ml_X7_148 yv_f7_checkNumber ⟨rfl, rfl⟩ ⟨Nat.le_of_ble_eq_true rfl, Nat.le_of_ble_eq_true rfl⟩ (hpC rfl rfl) rfl rfl rfl (Nat.le_of_ble_eq_true rfl) (ok_f7_checkNumber 1 9 h8 (tt_bind T)) ?_
  rintro _ h10 ⟨rfl, T⟩
  show G ΛC x 50 [(2, .int v9), (1, .int r6), (0, .ref 3)] [] h10
  refine g_aload_n (q := 2) C dX7_readTooth_50 rfl rfl ?_
  refine g_getI (k := 3) C dX7_readTooth_51 (hpC rfl rfl) rfl fl_X7_9 rfl ?_
  refine g_if_ne (tgt := 116) C dX7_readTooth_54 (by decide) (fun c11 => ?_) (fun c11 => ?_)
  · have T := tt_f T c11
    refine g_sub [2] rfl ?_
    exact k_f7_readTooth_116 C h10 hR T
  · have T := tt_t T c11
    refine g_aload_n (q := 2) C dX7_readTooth_57 rfl rfl ?_
    refine g_aload_n (q := 2) C dX7_readTooth_58 rfl rfl ?_
    obtain ⟨p13, ep13, T⟩ := tt_bind T
    obtain ⟨g14, T⟩ := tt_gd T
    have kp13 : kdC p13 = 10 := of_decide_eq_true g14
    refine g_getD (k := 2) (q := p13) C dX7_readTooth_59 (hpC rfl rfl) rfl fl_X7_31 rfl ep13 ?_
    refine g_getF (k := 0) (q := p13 + 1) C dX7_readTooth_62 (hpC kp13 rfl) kp13 fl_X7_110 rfl rfl ?_
    refine g_iload_n (q := 1) C dX7_readTooth_65 rfl rfl ?_
    obtain ⟨g15, T⟩ := tt_gd T
    refine g_aald (q := p13 + 1 + 1 + 2 * ix r6) C dX7_readTooth_66 (hpC (kf_10_0 kp13) rfl) (kf_10_0 kp13) (inb_of (lf_10_0 kp13) g15) rfl ?_
    refine g_iload_n (q := 0) C dX7_readTooth_67 rfl rfl ?_
    refine g_callV (p := (p13 + 1 + 1 + 2 * ix r6)) (As := [.int v9]) C dX7_readTooth_68 ml_X7_152 yv_f0_misses ⟨rfl, rfl⟩ ⟨Nat.le_of_ble_eq_true rfl, Nat.le_of_ble_eq_true rfl⟩ (hpC (kboxC (kf_10_0 kp13) g15) rfl) (kboxC (kf_10_0 kp13) g15) rfl rfl (Nat.le_of_ble_eq_true rfl) (ok_f0_misses (p13 + 1 + 1 + 2 * ix r6) v9 (kboxC (kf_10_0 kp13) g15) h10 (tt_bind T)) ?_
    rintro _ _ ⟨r16, rfl, rfl, T⟩
    show G ΛC x 71 [(2, .int v9), (1, .int r6), (0, .ref 3)] [.int r16, .ref 3] h10
    refine g_if_ne (tgt := 78) C dX7_readTooth_71 (by decide) (fun c17 => ?_) (fun c17 => ?_)
    · have T := tt_f T c17
      refine g_iconst (v := 0) C dX7_readTooth_78 (by decide) ?_
      refine g_sub [2, 1, 0] rfl ?_
      exact k_f7_readTooth_79 C r6 v9 0 h10 hR T
    · have T := tt_t T c17
      refine g_iconst (v := 1) C dX7_readTooth_74 (by decide) ?_
      refine g_goto (tgt := 79) C dX7_readTooth_75 (by decide) ?_
      refine g_sub [2, 1, 0] rfl ?_
      exact k_f7_readTooth_79 C r6 v9 1 h10 hR T

noncomputable def f7_readTooth (h : Hp) : Option (Hp) :=
  (h.2.2 3 2).bind fun p1 => gd (decide (kdC p1 = 10)) <| if 12 ≤ h.1 p1 6 then (f7_readTooth_18 0 h) else (f7_readTooth_18 1 h)
set_option maxRecDepth 100000 in
set_option maxHeartbeats 4000000 in
theorem k_f7_readTooth {x : Mx} {l : Launch} {post0 : Option Value → Hp → Prop} (C : Cx ΛC x l RX7 cX7_readTooth rm_f7_readTooth none 3 post0) {K : Hp → Prop} (h : Hp) (hR : ∀ h : Hp, K h → post0 none h) (T : Tt (f7_readTooth h) K) : G ΛC x 0 [(0, .ref 3)] [] h := by
  refine g_aload_n (q := 0) C dX7_readTooth_0 rfl rfl ?_
  refine g_aload_n (q := 0) C dX7_readTooth_1 rfl rfl ?_
  obtain ⟨p1, ep1, T⟩ := tt_bind T
  obtain ⟨g2, T⟩ := tt_gd T
  have kp1 : kdC p1 = 10 := of_decide_eq_true g2
  refine g_getD (k := 2) (q := p1) C dX7_readTooth_2 (hpC rfl rfl) rfl fl_X7_31 rfl ep1 ?_
  refine g_getI (k := 6) C dX7_readTooth_5 (hpC kp1 rfl) kp1 fl_X7_142 rfl ?_
  refine g_bipush (v := 12) C dX7_readTooth_8 (by decide) ?_
  refine g_icmp_ge (tgt := 17) C dX7_readTooth_10 (by decide) (fun c3 => ?_) (fun c3 => ?_)
  · have T := tt_t T c3
    refine g_iconst (v := 0) C dX7_readTooth_17 (by decide) ?_
    exact k_f7_readTooth_18 C 0 h hR T
  · have T := tt_f T c3
    refine g_iconst (v := 1) C dX7_readTooth_13 (by decide) ?_
    refine g_goto (tgt := 18) C dX7_readTooth_14 (by decide) ?_
    exact k_f7_readTooth_18 C 1 h hR T

theorem ok_f7_readTooth {l : Launch} {K : Hp → Prop} (h : Hp) (T : Tt (f7_readTooth h) K) : Ok ΛC l yX7_readTooth cX7_readTooth 3 none rm_f7_readTooth [.ref 3] h (PVw K) :=
  Ok.of RX7 rfl (by decide) ⟨rfl, rfl⟩ (Nat.le_of_ble_eq_true rfl) (fun x C => k_f7_readTooth C h (fun _ q => ⟨rfl, q⟩) T)

abbrev rm_f0_isKinOf : Room := { frames := 0, cells := 0, slots := 0, locals := 0 }
noncomputable def f0_isKinOf (x0 : Nat) (x1 : Int32) (h : Hp) : Option (Int32) :=
  if ((h.1 x0 4) >>> (x1 &&& 31)) &&& 1 = 1 then (some 1) else (some 0)
set_option maxRecDepth 100000 in
set_option maxHeartbeats 4000000 in
theorem k_f0_isKinOf {x : Mx} {l : Launch} {post0 : Option Value → Hp → Prop} (C : Cx ΛC x l RX0 cX0_isKinOf rm_f0_isKinOf (some .boolean) 2 post0) {K : Int32 → Prop} (x0 : Nat) (x1 : Int32) (kx0 : kdC x0 = 0) (h : Hp) (hR : ∀ v : Int32, K v → post0 (some (.int v)) h) (T : Tt (f0_isKinOf x0 x1 h) K) : G ΛC x 0 [(0, .ref x0), (1, .int x1)] [] h := by
  refine g_aload_n (q := 0) C dX0_isKinOf_0 rfl rfl ?_
  refine g_getI (k := 4) C dX0_isKinOf_1 (hpC kx0 rfl) kx0 fl_X0_31 rfl ?_
  refine g_iload_n (q := 1) C dX0_isKinOf_4 rfl rfl ?_
  refine g_ishr C dX0_isKinOf_5 ?_
  refine g_iconst (v := 1) C dX0_isKinOf_6 (by decide) ?_
  refine g_iand C dX0_isKinOf_7 ?_
  refine g_iconst (v := 1) C dX0_isKinOf_8 (by decide) ?_
  refine g_icmp_ne (tgt := 16) C dX0_isKinOf_9 (by decide) (fun c1 => ?_) (fun c1 => ?_)
  · have T := tt_f T c1
    refine g_iconst (v := 0) C dX0_isKinOf_16 (by decide) ?_
    exact g_zret C dX0_isKinOf_17 (Or.inl rfl) (hR _ (tt_some T))
  · have T := tt_t T c1
    refine g_iconst (v := 1) C dX0_isKinOf_12 (by decide) ?_
    refine g_goto (tgt := 17) C dX0_isKinOf_13 (by decide) ?_
    exact g_zret C dX0_isKinOf_17 (Or.inr rfl) (hR _ (tt_some T))

theorem ok_f0_isKinOf {l : Launch} {K : Int32 → Prop} (x0 : Nat) (x1 : Int32) (kx0 : kdC x0 = 0) (h : Hp) (T : Tt (f0_isKinOf x0 x1 h) K) : Ok ΛC l yX0_isKinOf cX0_isKinOf 2 (some .boolean) rm_f0_isKinOf [.ref x0, .int x1] h (PIs K h) :=
  Ok.of RX0 rfl (by decide) ⟨rfl, rfl⟩ (Nat.le_of_ble_eq_true rfl) (fun x C => k_f0_isKinOf C x0 x1 kx0 h (fun v q => ⟨v, rfl, rfl, q⟩) T)

abbrev rm_f7_readKin : Room := { frames := 4, cells := 0, slots := 0, locals := 84 }
noncomputable def f7_readKin_141 (h : Hp) : Option (Hp) :=
  (f7_step h).bind fun h12 => some (h12)
set_option maxRecDepth 100000 in
set_option maxHeartbeats 4000000 in
theorem k_f7_readKin_141 {x : Mx} {l : Launch} {post0 : Option Value → Hp → Prop} (C : Cx ΛC x l RX7 cX7_readKin rm_f7_readKin none 3 post0) {K : Hp → Prop} (h : Hp) (hR : ∀ h : Hp, K h → post0 none h) (T : Tt (f7_readKin_141 h) K) : G ΛC x 141 [(0, .ref 3)] [] h := by
  refine g_aload_n (q := 0) C dX7_readKin_141 rfl rfl ?_
  refine g_callV (p := 3) (As := []) C dX7_readKin_142 ml_X7_96 yv_f7_step ⟨rfl, rfl⟩ ⟨Nat.le_of_ble_eq_true rfl, Nat.le_of_ble_eq_true rfl⟩ (hpC rfl rfl) rfl rfl rfl (Nat.le_of_ble_eq_true rfl) (ok_f7_step h (tt_bind T)) ?_
  rintro _ h12 ⟨rfl, T⟩
  show G ΛC x 145 [(0, .ref 3)] [] h12
  exact g_vret C dX7_readKin_145 (hR _ (tt_some T))

noncomputable def f7_readKin_84 (x1 : Int32) (x2 : Int32) (s0 : Int32) (h : Hp) : Option (Hp) :=
  (f7_check s0 5 h).bind fun h20 => (h20.2.2 3 2).bind fun p21 => gd (decide (kdC p21 = 10)) <| gd (inb x1 6) <| lt (wI h20 (p21 + 1 + 1 + 2 * ix x1) 4 ((h20.1 (p21 + 1 + 1 + 2 * ix x1) 4) ||| (1 <<< (x2 &&& 31)))) fun h24 => (h24.2.2 3 2).bind fun p25 => gd (decide (kdC p25 = 10)) <| gd (inb x2 6) <| lt (wI h24 (p25 + 1 + 1 + 2 * ix x2) 4 ((h24.1 (p25 + 1 + 1 + 2 * ix x2) 4) ||| (1 <<< (x1 &&& 31)))) fun h28 => (h28.2.2 3 2).bind fun p29 => gd (decide (kdC p29 = 10)) <| lt (wI h28 p29 7 ((h28.1 p29 7) + 1)) fun h31 => f7_readKin_141 h31
set_option maxRecDepth 100000 in
set_option maxHeartbeats 4000000 in
theorem k_f7_readKin_84 {x : Mx} {l : Launch} {post0 : Option Value → Hp → Prop} (C : Cx ΛC x l RX7 cX7_readKin rm_f7_readKin none 3 post0) {K : Hp → Prop} (x1 : Int32) (x2 : Int32) (s0 : Int32) (h : Hp) (hR : ∀ h : Hp, K h → post0 none h) (T : Tt (f7_readKin_84 x1 x2 s0 h) K) : G ΛC x 84 [(0, .ref 3), (1, .int x1), (2, .int x2)] [.int s0, .ref 3] h := by
  refine g_iconst (v := 5) C dX7_readKin_84 (by decide) ?_
  refine g_callV (p := 3) (As := [.int s0, .int 5]) C dX7_readKin_85 ml_X7_92 yv_f7_check ⟨rfl, rfl⟩ ⟨Nat.le_of_ble_eq_true rfl, Nat.le_of_ble_eq_true rfl⟩ (hpC rfl rfl) rfl rfl rfl (Nat.le_of_ble_eq_true rfl) (ok_f7_check s0 5 h (tt_bind T)) ?_
  rintro _ h20 ⟨rfl, T⟩
  show G ΛC x 88 [(0, .ref 3), (1, .int x1), (2, .int x2)] [] h20
  refine g_aload_n (q := 0) C dX7_readKin_88 rfl rfl ?_
  obtain ⟨p21, ep21, T⟩ := tt_bind T
  obtain ⟨g22, T⟩ := tt_gd T
  have kp21 : kdC p21 = 10 := of_decide_eq_true g22
  refine g_getD (k := 2) (q := p21) C dX7_readKin_89 (hpC rfl rfl) rfl fl_X7_31 rfl ep21 ?_
  refine g_getF (k := 0) (q := p21 + 1) C dX7_readKin_92 (hpC kp21 rfl) kp21 fl_X7_110 rfl rfl ?_
  refine g_iload_n (q := 1) C dX7_readKin_95 rfl rfl ?_
  obtain ⟨g23, T⟩ := tt_gd T
  refine g_aald (q := p21 + 1 + 1 + 2 * ix x1) C dX7_readKin_96 (hpC (kf_10_0 kp21) rfl) (kf_10_0 kp21) (inb_of (lf_10_0 kp21) g23) rfl ?_
  refine g_dup C dX7_readKin_97 rfl ?_
  refine g_getI (k := 4) C dX7_readKin_98 (hpC (kboxC (kf_10_0 kp21) g23) rfl) (kboxC (kf_10_0 kp21) g23) fl_X7_139 rfl ?_
  refine g_iconst (v := 1) C dX7_readKin_101 (by decide) ?_
  refine g_iload_n (q := 2) C dX7_readKin_102 rfl rfl ?_
  refine g_ishl C dX7_readKin_103 ?_
  refine g_ior C dX7_readKin_104 ?_
  obtain ⟨h24, eh24, T⟩ := tt_lt T
  refine g_putI (k := 4) C dX7_readKin_105 (hpC (kboxC (kf_10_0 kp21) g23) rfl) (kboxC (kf_10_0 kp21) g23) fp_X7_139 rfl eh24 ?_
  refine g_aload_n (q := 0) C dX7_readKin_108 rfl rfl ?_
  obtain ⟨p25, ep25, T⟩ := tt_bind T
  obtain ⟨g26, T⟩ := tt_gd T
  have kp25 : kdC p25 = 10 := of_decide_eq_true g26
  refine g_getD (k := 2) (q := p25) C dX7_readKin_109 (hpC rfl rfl) rfl fl_X7_31 rfl ep25 ?_
  refine g_getF (k := 0) (q := p25 + 1) C dX7_readKin_112 (hpC kp25 rfl) kp25 fl_X7_110 rfl rfl ?_
  refine g_iload_n (q := 2) C dX7_readKin_115 rfl rfl ?_
  obtain ⟨g27, T⟩ := tt_gd T
  refine g_aald (q := p25 + 1 + 1 + 2 * ix x2) C dX7_readKin_116 (hpC (kf_10_0 kp25) rfl) (kf_10_0 kp25) (inb_of (lf_10_0 kp25) g27) rfl ?_
  refine g_dup C dX7_readKin_117 rfl ?_
  refine g_getI (k := 4) C dX7_readKin_118 (hpC (kboxC (kf_10_0 kp25) g27) rfl) (kboxC (kf_10_0 kp25) g27) fl_X7_139 rfl ?_
  refine g_iconst (v := 1) C dX7_readKin_121 (by decide) ?_
  refine g_iload_n (q := 1) C dX7_readKin_122 rfl rfl ?_
  refine g_ishl C dX7_readKin_123 ?_
  refine g_ior C dX7_readKin_124 ?_
  obtain ⟨h28, eh28, T⟩ := tt_lt T
  refine g_putI (k := 4) C dX7_readKin_125 (hpC (kboxC (kf_10_0 kp25) g27) rfl) (kboxC (kf_10_0 kp25) g27) fp_X7_139 rfl eh28 ?_
  refine g_aload_n (q := 0) C dX7_readKin_128 rfl rfl ?_
  obtain ⟨p29, ep29, T⟩ := tt_bind T
  obtain ⟨g30, T⟩ := tt_gd T
  have kp29 : kdC p29 = 10 := of_decide_eq_true g30
  refine g_getD (k := 2) (q := p29) C dX7_readKin_129 (hpC rfl rfl) rfl fl_X7_31 rfl ep29 ?_
  refine g_dup C dX7_readKin_132 rfl ?_
  refine g_getI (k := 7) C dX7_readKin_133 (hpC kp29 rfl) kp29 fl_X7_155 rfl ?_
  refine g_iconst (v := 1) C dX7_readKin_136 (by decide) ?_
  refine g_iadd C dX7_readKin_137 ?_
  obtain ⟨h31, eh31, T⟩ := tt_lt T
  refine g_putI (k := 7) C dX7_readKin_138 (hpC kp29 rfl) kp29 fp_X7_155 rfl eh31 ?_
  refine g_sub [0] rfl ?_
  exact k_f7_readKin_141 C h31 hR T

noncomputable def f7_readKin_69 (x1 : Int32) (x2 : Int32) (s0 : Int32) (h : Hp) : Option (Hp) :=
  (f7_check s0 3 h).bind fun h18 => if x1 = x2 then (f7_readKin_84 x1 x2 0 h18) else (f7_readKin_84 x1 x2 1 h18)
set_option maxRecDepth 100000 in
set_option maxHeartbeats 4000000 in
theorem k_f7_readKin_69 {x : Mx} {l : Launch} {post0 : Option Value → Hp → Prop} (C : Cx ΛC x l RX7 cX7_readKin rm_f7_readKin none 3 post0) {K : Hp → Prop} (x1 : Int32) (x2 : Int32) (s0 : Int32) (h : Hp) (hR : ∀ h : Hp, K h → post0 none h) (T : Tt (f7_readKin_69 x1 x2 s0 h) K) : G ΛC x 69 [(0, .ref 3), (1, .int x1), (2, .int x2)] [.int s0, .ref 3] h := by
  refine g_iconst (v := 3) C dX7_readKin_69 (by decide) ?_
  refine g_callV (p := 3) (As := [.int s0, .int 3]) C dX7_readKin_70 ml_X7_92 yv_f7_check ⟨rfl, rfl⟩ ⟨Nat.le_of_ble_eq_true rfl, Nat.le_of_ble_eq_true rfl⟩ (hpC rfl rfl) rfl rfl rfl (Nat.le_of_ble_eq_true rfl) (ok_f7_check s0 3 h (tt_bind T)) ?_
  rintro _ h18 ⟨rfl, T⟩
  show G ΛC x 73 [(0, .ref 3), (1, .int x1), (2, .int x2)] [] h18
  refine g_aload_n (q := 0) C dX7_readKin_73 rfl rfl ?_
  refine g_iload_n (q := 1) C dX7_readKin_74 rfl rfl ?_
  refine g_iload_n (q := 2) C dX7_readKin_75 rfl rfl ?_
  refine g_icmp_eq (tgt := 83) C dX7_readKin_76 (by decide) (fun c19 => ?_) (fun c19 => ?_)
  · have T := tt_t T c19
    refine g_iconst (v := 0) C dX7_readKin_83 (by decide) ?_
    exact k_f7_readKin_84 C x1 x2 0 h18 hR T
  · have T := tt_f T c19
    refine g_iconst (v := 1) C dX7_readKin_79 (by decide) ?_
    refine g_goto (tgt := 84) C dX7_readKin_80 (by decide) ?_
    exact k_f7_readKin_84 C x1 x2 1 h18 hR T

noncomputable def f7_readKin_18 (s0 : Int32) (h : Hp) : Option (Hp) :=
  (f7_check s0 2 h).bind fun h4 => (f7_step h4).bind fun h5 => (f7_takeBox h5).bind fun (r6, h7) => (f7_step h7).bind fun h8 => (f7_takeBox h8).bind fun (r9, h10) => if h10.1 3 3 = 0 then ((h10.2.2 3 2).bind fun p13 => gd (decide (kdC p13 = 10)) <| gd (inb r6 6) <| (f0_isKinOf (p13 + 1 + 1 + 2 * ix r6) r9 h10).bind fun r16 => if r16 = 0 then (f7_readKin_69 r6 r9 1 h10) else (f7_readKin_69 r6 r9 0 h10)) else (f7_readKin_141 h10)
set_option maxRecDepth 100000 in
set_option maxHeartbeats 4000000 in
theorem k_f7_readKin_18 {x : Mx} {l : Launch} {post0 : Option Value → Hp → Prop} (C : Cx ΛC x l RX7 cX7_readKin rm_f7_readKin none 3 post0) {K : Hp → Prop} (s0 : Int32) (h : Hp) (hR : ∀ h : Hp, K h → post0 none h) (T : Tt (f7_readKin_18 s0 h) K) : G ΛC x 18 [(0, .ref 3)] [.int s0, .ref 3] h := by
  refine g_iconst (v := 2) C dX7_readKin_18 (by decide) ?_
  refine g_callV (p := 3) (As := [.int s0, .int 2]) C dX7_readKin_19 ml_X7_92 yv_f7_check ⟨rfl, rfl⟩ ⟨Nat.le_of_ble_eq_true rfl, Nat.le_of_ble_eq_true rfl⟩ (hpC rfl rfl) rfl rfl rfl (Nat.le_of_ble_eq_true rfl) (ok_f7_check s0 2 h (tt_bind T)) ?_
  rintro _ h4 ⟨rfl, T⟩
  show G ΛC x 22 [(0, .ref 3)] [] h4
  refine g_aload_n (q := 0) C dX7_readKin_22 rfl rfl ?_
  refine g_callV (p := 3) (As := []) C dX7_readKin_23 ml_X7_96 yv_f7_step ⟨rfl, rfl⟩ ⟨Nat.le_of_ble_eq_true rfl, Nat.le_of_ble_eq_true rfl⟩ (hpC rfl rfl) rfl rfl rfl (Nat.le_of_ble_eq_true rfl) (ok_f7_step h4 (tt_bind T)) ?_
  rintro _ h5 ⟨rfl, T⟩
  show G ΛC x 26 [(0, .ref 3)] [] h5
  refine g_aload_n (q := 0) C dX7_readKin_26 rfl rfl ?_
  refine g_callV (p := 3) (As := []) C dX7_readKin_27 ml_X7_145 yv_f7_takeBox ⟨rfl, rfl⟩ ⟨Nat.le_of_ble_eq_true rfl, Nat.le_of_ble_eq_true rfl⟩ (hpC rfl rfl) rfl rfl rfl (Nat.le_of_ble_eq_true rfl) (ok_f7_takeBox h5 (tt_bind T)) ?_
  rintro _ h7 ⟨r6, rfl, T⟩
  show G ΛC x 30 [(0, .ref 3)] [.int r6] h7
  refine g_istore_n (L' := [(1, .int r6), (0, .ref 3)]) C dX7_readKin_30 rfl (by decide) rfl ?_
  refine g_aload_n (q := 1) C dX7_readKin_31 rfl rfl ?_
  refine g_callV (p := 3) (As := []) C dX7_readKin_32 ml_X7_96 yv_f7_step ⟨rfl, rfl⟩ ⟨Nat.le_of_ble_eq_true rfl, Nat.le_of_ble_eq_true rfl⟩ (hpC rfl rfl) rfl rfl rfl (Nat.le_of_ble_eq_true rfl) (ok_f7_step h7 (tt_bind T)) ?_
  rintro _ h8 ⟨rfl, T⟩
  show G ΛC x 35 [(1, .int r6), (0, .ref 3)] [] h8
  refine g_aload_n (q := 1) C dX7_readKin_35 rfl rfl ?_
  refine g_callV (p := 3) (As := []) C dX7_readKin_36 ml_X7_145 yv_f7_takeBox ⟨rfl, rfl⟩ ⟨Nat.le_of_ble_eq_true rfl, Nat.le_of_ble_eq_true rfl⟩ (hpC rfl rfl) rfl rfl rfl (Nat.le_of_ble_eq_true rfl) (ok_f7_takeBox h8 (tt_bind T)) ?_
  rintro _ h10 ⟨r9, rfl, T⟩
  show G ΛC x 39 [(1, .int r6), (0, .ref 3)] [.int r9] h10
  refine g_istore_n (L' := [(2, .int r9), (1, .int r6), (0, .ref 3)]) C dX7_readKin_39 rfl (by decide) rfl ?_
  refine g_aload_n (q := 2) C dX7_readKin_40 rfl rfl ?_
  refine g_getI (k := 3) C dX7_readKin_41 (hpC rfl rfl) rfl fl_X7_9 rfl ?_
  refine g_if_ne (tgt := 141) C dX7_readKin_44 (by decide) (fun c11 => ?_) (fun c11 => ?_)
  · have T := tt_f T c11
    refine g_sub [2] rfl ?_
    exact k_f7_readKin_141 C h10 hR T
  · have T := tt_t T c11
    refine g_aload_n (q := 2) C dX7_readKin_47 rfl rfl ?_
    refine g_aload_n (q := 2) C dX7_readKin_48 rfl rfl ?_
    obtain ⟨p13, ep13, T⟩ := tt_bind T
    obtain ⟨g14, T⟩ := tt_gd T
    have kp13 : kdC p13 = 10 := of_decide_eq_true g14
    refine g_getD (k := 2) (q := p13) C dX7_readKin_49 (hpC rfl rfl) rfl fl_X7_31 rfl ep13 ?_
    refine g_getF (k := 0) (q := p13 + 1) C dX7_readKin_52 (hpC kp13 rfl) kp13 fl_X7_110 rfl rfl ?_
    refine g_iload_n (q := 1) C dX7_readKin_55 rfl rfl ?_
    obtain ⟨g15, T⟩ := tt_gd T
    refine g_aald (q := p13 + 1 + 1 + 2 * ix r6) C dX7_readKin_56 (hpC (kf_10_0 kp13) rfl) (kf_10_0 kp13) (inb_of (lf_10_0 kp13) g15) rfl ?_
    refine g_iload_n (q := 0) C dX7_readKin_57 rfl rfl ?_
    refine g_callV (p := (p13 + 1 + 1 + 2 * ix r6)) (As := [.int r9]) C dX7_readKin_58 ml_X7_158 yv_f0_isKinOf ⟨rfl, rfl⟩ ⟨Nat.le_of_ble_eq_true rfl, Nat.le_of_ble_eq_true rfl⟩ (hpC (kboxC (kf_10_0 kp13) g15) rfl) (kboxC (kf_10_0 kp13) g15) rfl rfl (Nat.le_of_ble_eq_true rfl) (ok_f0_isKinOf (p13 + 1 + 1 + 2 * ix r6) r9 (kboxC (kf_10_0 kp13) g15) h10 (tt_bind T)) ?_
    rintro _ _ ⟨r16, rfl, rfl, T⟩
    show G ΛC x 61 [(2, .int r9), (1, .int r6), (0, .ref 3)] [.int r16, .ref 3] h10
    refine g_if_ne (tgt := 68) C dX7_readKin_61 (by decide) (fun c17 => ?_) (fun c17 => ?_)
    · have T := tt_f T c17
      refine g_iconst (v := 0) C dX7_readKin_68 (by decide) ?_
      refine g_sub [2, 1, 0] rfl ?_
      exact k_f7_readKin_69 C r6 r9 0 h10 hR T
    · have T := tt_t T c17
      refine g_iconst (v := 1) C dX7_readKin_64 (by decide) ?_
      refine g_goto (tgt := 69) C dX7_readKin_65 (by decide) ?_
      refine g_sub [2, 1, 0] rfl ?_
      exact k_f7_readKin_69 C r6 r9 1 h10 hR T

noncomputable def f7_readKin (h : Hp) : Option (Hp) :=
  (h.2.2 3 2).bind fun p1 => gd (decide (kdC p1 = 10)) <| if 9 ≤ h.1 p1 7 then (f7_readKin_18 0 h) else (f7_readKin_18 1 h)
set_option maxRecDepth 100000 in
set_option maxHeartbeats 4000000 in
theorem k_f7_readKin {x : Mx} {l : Launch} {post0 : Option Value → Hp → Prop} (C : Cx ΛC x l RX7 cX7_readKin rm_f7_readKin none 3 post0) {K : Hp → Prop} (h : Hp) (hR : ∀ h : Hp, K h → post0 none h) (T : Tt (f7_readKin h) K) : G ΛC x 0 [(0, .ref 3)] [] h := by
  refine g_aload_n (q := 0) C dX7_readKin_0 rfl rfl ?_
  refine g_aload_n (q := 0) C dX7_readKin_1 rfl rfl ?_
  obtain ⟨p1, ep1, T⟩ := tt_bind T
  obtain ⟨g2, T⟩ := tt_gd T
  have kp1 : kdC p1 = 10 := of_decide_eq_true g2
  refine g_getD (k := 2) (q := p1) C dX7_readKin_2 (hpC rfl rfl) rfl fl_X7_31 rfl ep1 ?_
  refine g_getI (k := 7) C dX7_readKin_5 (hpC kp1 rfl) kp1 fl_X7_155 rfl ?_
  refine g_bipush (v := 9) C dX7_readKin_8 (by decide) ?_
  refine g_icmp_ge (tgt := 17) C dX7_readKin_10 (by decide) (fun c3 => ?_) (fun c3 => ?_)
  · have T := tt_t T c3
    refine g_iconst (v := 0) C dX7_readKin_17 (by decide) ?_
    exact k_f7_readKin_18 C 0 h hR T
  · have T := tt_f T c3
    refine g_iconst (v := 1) C dX7_readKin_13 (by decide) ?_
    refine g_goto (tgt := 18) C dX7_readKin_14 (by decide) ?_
    exact k_f7_readKin_18 C 1 h hR T

theorem ok_f7_readKin {l : Launch} {K : Hp → Prop} (h : Hp) (T : Tt (f7_readKin h) K) : Ok ΛC l yX7_readKin cX7_readKin 3 none rm_f7_readKin [.ref 3] h (PVw K) :=
  Ok.of RX7 rfl (by decide) ⟨rfl, rfl⟩ (Nat.le_of_ble_eq_true rfl) (fun x C => k_f7_readKin C h (fun _ q => ⟨rfl, q⟩) T)

abbrev rm_f10_guestNamed : Room := { frames := 0, cells := 0, slots := 0, locals := 0 }
noncomputable def f10_guestNamed_2_s (x0 : Nat) (x1 : Int32) (x2 : Int32) (h : Hp) : Option ((Int32) ⊕ (Int32)) :=
  if h.1 x0 8 ≤ x2 then (some (.inr (-1))) else (gd (inb x2 5) <| if h.1 (x0 + 20) (ix x2) = x1 then (some (.inr x2)) else (some (.inl (x2 + 1))))
set_option maxRecDepth 100000 in
set_option maxHeartbeats 4000000 in
theorem k_f10_guestNamed_2_s {x : Mx} {l : Launch} {post0 : Option Value → Hp → Prop} (C : Cx ΛC x l RX10 cX10_guestNamed rm_f10_guestNamed (some .int) 3 post0) {K : (Int32) ⊕ (Int32) → Prop} (x0 : Nat) (x1 : Int32) (x2 : Int32) (kx0 : kdC x0 = 10) (h : Hp) (hR : ∀ v : Int32, K (.inr v) → post0 (some (.int v)) h) (hL2 : ∀ (x2 : Int32), K (.inl x2) → G ΛC x 2 [(0, .ref x0), (1, .int x1), (2, .int x2)] [] h) (T : Tt (f10_guestNamed_2_s x0 x1 x2 h) K) : G ΛC x 2 [(0, .ref x0), (1, .int x1), (2, .int x2)] [] h := by
  refine g_iload_n (q := 2) C dX10_guestNamed_2 rfl rfl ?_
  refine g_aload_n (q := 0) C dX10_guestNamed_3 rfl rfl ?_
  refine g_getI (k := 8) C dX10_guestNamed_4 (hpC kx0 rfl) kx0 fl_X10_48 rfl ?_
  refine g_icmp_ge (tgt := 28) C dX10_guestNamed_7 (by decide) (fun c1 => ?_) (fun c1 => ?_)
  · have T := tt_t T c1
    refine g_iconst (v := (-1)) C dX10_guestNamed_28 (by decide) ?_
    exact g_iret C dX10_guestNamed_29 (hR _ (tt_some T))
  · have T := tt_f T c1
    refine g_aload_n (q := 0) C dX10_guestNamed_10 rfl rfl ?_
    refine g_getF (k := 2) (q := x0 + 20) C dX10_guestNamed_11 (hpC kx0 rfl) kx0 fl_X10_24 rfl rfl ?_
    refine g_iload_n (q := 2) C dX10_guestNamed_14 rfl rfl ?_
    obtain ⟨g2, T⟩ := tt_gd T
    refine g_iald C dX10_guestNamed_15 (hpC (kf_10_2 kx0) rfl) (kf_10_2 kx0) (inb_of (lf_10_2 kx0) g2) ?_
    refine g_iload_n (q := 1) C dX10_guestNamed_16 rfl rfl ?_
    refine g_icmp_ne (tgt := 22) C dX10_guestNamed_17 (by decide) (fun c3 => ?_) (fun c3 => ?_)
    · have T := tt_f T c3
      refine g_iinc (v := x2 + 1) (q := 2) (L' := [(2, .int (x2 + 1)), (0, .ref x0), (1, .int x1)]) C dX10_guestNamed_22 rfl (by first | rfl | exact congrArg _ (by decide)) (by decide) rfl ?_
      refine g_goto (tgt := 2) C dX10_guestNamed_25 (by decide) ?_
      refine g_sub [1, 2, 0] rfl ?_
      exact hL2 _ (tt_some T)
    · have T := tt_t T c3
      refine g_iload_n (q := 2) C dX10_guestNamed_20 rfl rfl ?_
      exact g_iret C dX10_guestNamed_21 (hR _ (tt_some T))

noncomputable def f10_guestNamed_2 (x0 : Nat) (x1 : Int32) (x2 : Int32) (h : Hp) : Option (Int32) := lp (fun z : Int32 => f10_guestNamed_2_s x0 x1 z h) x2
theorem k_f10_guestNamed_2 {x : Mx} {l : Launch} {post0 : Option Value → Hp → Prop} (C : Cx ΛC x l RX10 cX10_guestNamed rm_f10_guestNamed (some .int) 3 post0) {K : Int32 → Prop} (x0 : Nat) (x1 : Int32) (x2 : Int32) (kx0 : kdC x0 = 10) (h : Hp) (hR : ∀ v : Int32, K v → post0 (some (.int v)) h) (T : Tt (f10_guestNamed_2 x0 x1 x2 h) K) : G ΛC x 2 [(0, .ref x0), (1, .int x1), (2, .int x2)] [] h :=
  lp_ind (f := fun z : Int32 => f10_guestNamed_2_s x0 x1 z h) (P := fun z : Int32 => G ΛC x 2 [(0, .ref x0), (1, .int x1), (2, .int z)] [] h) (K := K) (fun z T => k_f10_guestNamed_2_s C (K := KS (fun z : Int32 => G ΛC x 2 [(0, .ref x0), (1, .int x1), (2, .int z)] [] h) K) x0 x1 z kx0 h hR (fun _ q => q) T) x2 T
noncomputable def f10_guestNamed (x0 : Nat) (x1 : Int32) (h : Hp) : Option (Int32) :=
  f10_guestNamed_2 x0 x1 0 h
set_option maxRecDepth 100000 in
set_option maxHeartbeats 4000000 in
theorem k_f10_guestNamed {x : Mx} {l : Launch} {post0 : Option Value → Hp → Prop} (C : Cx ΛC x l RX10 cX10_guestNamed rm_f10_guestNamed (some .int) 3 post0) {K : Int32 → Prop} (x0 : Nat) (x1 : Int32) (kx0 : kdC x0 = 10) (h : Hp) (hR : ∀ v : Int32, K v → post0 (some (.int v)) h) (T : Tt (f10_guestNamed x0 x1 h) K) : G ΛC x 0 [(0, .ref x0), (1, .int x1)] [] h := by
  refine g_iconst (v := 0) C dX10_guestNamed_0 (by decide) ?_
  refine g_istore_n (L' := [(2, .int 0), (0, .ref x0), (1, .int x1)]) C dX10_guestNamed_1 rfl (by decide) rfl ?_
  refine g_sub [1, 2, 0] rfl ?_
  exact k_f10_guestNamed_2 C x0 x1 0 kx0 h hR T

theorem ok_f10_guestNamed {l : Launch} {K : Int32 → Prop} (x0 : Nat) (x1 : Int32) (kx0 : kdC x0 = 10) (h : Hp) (T : Tt (f10_guestNamed x0 x1 h) K) : Ok ΛC l yX10_guestNamed cX10_guestNamed 3 (some .int) rm_f10_guestNamed [.ref x0, .int x1] h (PIs K h) :=
  Ok.of RX10 rfl (by decide) ⟨rfl, rfl⟩ (Nat.le_of_ble_eq_true rfl) (fun x C => k_f10_guestNamed C x0 x1 kx0 h (fun v q => ⟨v, rfl, rfl, q⟩) T)

abbrev rm_f7_readGuest : Room := { frames := 4, cells := 0, slots := 0, locals := 88 }
noncomputable def f7_readGuest_48 (x1 : Int32) (s0 : Int32) (h : Hp) : Option (Hp) :=
  (f7_check s0 3 h).bind fun h12 => (f7_step h12).bind fun h13 => (f7_takeNumber 0 99 h13).bind fun (r14, h15) => (f7_takeNumber 0 9 h15).bind fun (r16, h17) => if h17.1 3 3 = 0 then ((h17.2.2 3 2).bind fun p19 => gd (decide (kdC p19 = 10)) <| (h17.2.2 3 2).bind fun p21 => gd (decide (kdC p21 = 10)) <| gd (inb (h17.1 p21 8) 5) <| lt (wI h17 (p19 + 20) (ix (h17.1 p21 8)) x1) fun h24 => (h24.2.2 3 2).bind fun p25 => gd (decide (kdC p25 = 10)) <| (h24.2.2 3 2).bind fun p27 => gd (decide (kdC p27 = 10)) <| gd (inb (h24.1 p27 8) 5) <| lt (wI h24 (p25 + 21) (ix (h24.1 p27 8)) r14) fun h30 => (h30.2.2 3 2).bind fun p31 => gd (decide (kdC p31 = 10)) <| (h30.2.2 3 2).bind fun p33 => gd (decide (kdC p33 = 10)) <| gd (inb (h30.1 p33 8) 5) <| lt (wI h30 (p31 + 22) (ix (h30.1 p33 8)) r16) fun h36 => (h36.2.2 3 2).bind fun p37 => gd (decide (kdC p37 = 10)) <| lt (wI h36 p37 8 ((h36.1 p37 8) + 1)) fun h39 => some (h39)) else (some (h17))
set_option maxRecDepth 100000 in
set_option maxHeartbeats 4000000 in
theorem k_f7_readGuest_48 {x : Mx} {l : Launch} {post0 : Option Value → Hp → Prop} (C : Cx ΛC x l RX7 cX7_readGuest rm_f7_readGuest none 4 post0) {K : Hp → Prop} (x1 : Int32) (s0 : Int32) (h : Hp) (hR : ∀ h : Hp, K h → post0 none h) (T : Tt (f7_readGuest_48 x1 s0 h) K) : G ΛC x 48 [(0, .ref 3), (1, .int x1)] [.int s0, .ref 3] h := by
  refine g_iconst (v := 3) C dX7_readGuest_48 (by decide) ?_
  refine g_callV (p := 3) (As := [.int s0, .int 3]) C dX7_readGuest_49 ml_X7_92 yv_f7_check ⟨rfl, rfl⟩ ⟨Nat.le_of_ble_eq_true rfl, Nat.le_of_ble_eq_true rfl⟩ (hpC rfl rfl) rfl rfl rfl (Nat.le_of_ble_eq_true rfl) (ok_f7_check s0 3 h (tt_bind T)) ?_
  rintro _ h12 ⟨rfl, T⟩
  show G ΛC x 52 [(0, .ref 3), (1, .int x1)] [] h12
  refine g_aload_n (q := 0) C dX7_readGuest_52 rfl rfl ?_
  refine g_callV (p := 3) (As := []) C dX7_readGuest_53 ml_X7_96 yv_f7_step ⟨rfl, rfl⟩ ⟨Nat.le_of_ble_eq_true rfl, Nat.le_of_ble_eq_true rfl⟩ (hpC rfl rfl) rfl rfl rfl (Nat.le_of_ble_eq_true rfl) (ok_f7_step h12 (tt_bind T)) ?_
  rintro _ h13 ⟨rfl, T⟩
  show G ΛC x 56 [(0, .ref 3), (1, .int x1)] [] h13
  refine g_aload_n (q := 0) C dX7_readGuest_56 rfl rfl ?_
  refine g_iconst (v := 0) C dX7_readGuest_57 (by decide) ?_
  refine g_bipush (v := 99) C dX7_readGuest_58 (by decide) ?_
  refine g_callV (p := 3) (As := [.int 0, .int 99]) C dX7_readGuest_60 ml_X7_119 yv_f7_takeNumber ⟨rfl, rfl⟩ ⟨Nat.le_of_ble_eq_true rfl, Nat.le_of_ble_eq_true rfl⟩ (hpC rfl rfl) rfl rfl rfl (Nat.le_of_ble_eq_true rfl) (ok_f7_takeNumber 0 99 h13 (tt_bind T)) ?_
  rintro _ h15 ⟨r14, rfl, T⟩
  show G ΛC x 63 [(0, .ref 3), (1, .int x1)] [.int r14] h15
  refine g_istore_n (L' := [(2, .int r14), (0, .ref 3), (1, .int x1)]) C dX7_readGuest_63 rfl (by decide) rfl ?_
  refine g_aload_n (q := 1) C dX7_readGuest_64 rfl rfl ?_
  refine g_iconst (v := 0) C dX7_readGuest_65 (by decide) ?_
  refine g_bipush (v := 9) C dX7_readGuest_66 (by decide) ?_
  refine g_callV (p := 3) (As := [.int 0, .int 9]) C dX7_readGuest_68 ml_X7_119 yv_f7_takeNumber ⟨rfl, rfl⟩ ⟨Nat.le_of_ble_eq_true rfl, Nat.le_of_ble_eq_true rfl⟩ (hpC rfl rfl) rfl rfl rfl (Nat.le_of_ble_eq_true rfl) (ok_f7_takeNumber 0 9 h15 (tt_bind T)) ?_
  rintro _ h17 ⟨r16, rfl, T⟩
  show G ΛC x 71 [(2, .int r14), (0, .ref 3), (1, .int x1)] [.int r16] h17
  refine g_istore_n (L' := [(3, .int r16), (2, .int r14), (0, .ref 3), (1, .int x1)]) C dX7_readGuest_71 rfl (by decide) rfl ?_
  refine g_aload_n (q := 2) C dX7_readGuest_72 rfl rfl ?_
  refine g_getI (k := 3) C dX7_readGuest_73 (hpC rfl rfl) rfl fl_X7_9 rfl ?_
  refine g_if_ne (tgt := 140) C dX7_readGuest_76 (by decide) (fun c18 => ?_) (fun c18 => ?_)
  · have T := tt_f T c18
    exact g_vret C dX7_readGuest_140 (hR _ (tt_some T))
  · have T := tt_t T c18
    refine g_aload_n (q := 2) C dX7_readGuest_79 rfl rfl ?_
    obtain ⟨p19, ep19, T⟩ := tt_bind T
    obtain ⟨g20, T⟩ := tt_gd T
    have kp19 : kdC p19 = 10 := of_decide_eq_true g20
    refine g_getD (k := 2) (q := p19) C dX7_readGuest_80 (hpC rfl rfl) rfl fl_X7_31 rfl ep19 ?_
    refine g_getF (k := 2) (q := p19 + 20) C dX7_readGuest_83 (hpC kp19 rfl) kp19 fl_X7_167 rfl rfl ?_
    refine g_aload_n (q := 2) C dX7_readGuest_86 rfl rfl ?_
    obtain ⟨p21, ep21, T⟩ := tt_bind T
    obtain ⟨g22, T⟩ := tt_gd T
    have kp21 : kdC p21 = 10 := of_decide_eq_true g22
    refine g_getD (k := 2) (q := p21) C dX7_readGuest_87 (hpC rfl rfl) rfl fl_X7_31 rfl ep21 ?_
    refine g_getI (k := 8) C dX7_readGuest_90 (hpC kp21 rfl) kp21 fl_X7_161 rfl ?_
    refine g_iload_n (q := 3) C dX7_readGuest_93 rfl rfl ?_
    obtain ⟨g23, T⟩ := tt_gd T
    obtain ⟨h24, eh24, T⟩ := tt_lt T
    refine g_iast C dX7_readGuest_94 (hpC (kf_10_2 kp19) rfl) (kf_10_2 kp19) (inb_of (lf_10_2 kp19) g23) eh24 ?_
    refine g_aload_n (q := 2) C dX7_readGuest_95 rfl rfl ?_
    obtain ⟨p25, ep25, T⟩ := tt_bind T
    obtain ⟨g26, T⟩ := tt_gd T
    have kp25 : kdC p25 = 10 := of_decide_eq_true g26
    refine g_getD (k := 2) (q := p25) C dX7_readGuest_96 (hpC rfl rfl) rfl fl_X7_31 rfl ep25 ?_
    refine g_getF (k := 3) (q := p25 + 21) C dX7_readGuest_99 (hpC kp25 rfl) kp25 fl_X7_170 rfl rfl ?_
    refine g_aload_n (q := 2) C dX7_readGuest_102 rfl rfl ?_
    obtain ⟨p27, ep27, T⟩ := tt_bind T
    obtain ⟨g28, T⟩ := tt_gd T
    have kp27 : kdC p27 = 10 := of_decide_eq_true g28
    refine g_getD (k := 2) (q := p27) C dX7_readGuest_103 (hpC rfl rfl) rfl fl_X7_31 rfl ep27 ?_
    refine g_getI (k := 8) C dX7_readGuest_106 (hpC kp27 rfl) kp27 fl_X7_161 rfl ?_
    refine g_iload_n (q := 1) C dX7_readGuest_109 rfl rfl ?_
    obtain ⟨g29, T⟩ := tt_gd T
    obtain ⟨h30, eh30, T⟩ := tt_lt T
    refine g_iast C dX7_readGuest_110 (hpC (kf_10_3 kp25) rfl) (kf_10_3 kp25) (inb_of (lf_10_3 kp25) g29) eh30 ?_
    refine g_aload_n (q := 2) C dX7_readGuest_111 rfl rfl ?_
    obtain ⟨p31, ep31, T⟩ := tt_bind T
    obtain ⟨g32, T⟩ := tt_gd T
    have kp31 : kdC p31 = 10 := of_decide_eq_true g32
    refine g_getD (k := 2) (q := p31) C dX7_readGuest_112 (hpC rfl rfl) rfl fl_X7_31 rfl ep31 ?_
    refine g_getF (k := 4) (q := p31 + 22) C dX7_readGuest_115 (hpC kp31 rfl) kp31 fl_X7_173 rfl rfl ?_
    refine g_aload_n (q := 2) C dX7_readGuest_118 rfl rfl ?_
    obtain ⟨p33, ep33, T⟩ := tt_bind T
    obtain ⟨g34, T⟩ := tt_gd T
    have kp33 : kdC p33 = 10 := of_decide_eq_true g34
    refine g_getD (k := 2) (q := p33) C dX7_readGuest_119 (hpC rfl rfl) rfl fl_X7_31 rfl ep33 ?_
    refine g_getI (k := 8) C dX7_readGuest_122 (hpC kp33 rfl) kp33 fl_X7_161 rfl ?_
    refine g_iload_n (q := 0) C dX7_readGuest_125 rfl rfl ?_
    obtain ⟨g35, T⟩ := tt_gd T
    obtain ⟨h36, eh36, T⟩ := tt_lt T
    refine g_iast C dX7_readGuest_126 (hpC (kf_10_4 kp31) rfl) (kf_10_4 kp31) (inb_of (lf_10_4 kp31) g35) eh36 ?_
    refine g_aload_n (q := 2) C dX7_readGuest_127 rfl rfl ?_
    obtain ⟨p37, ep37, T⟩ := tt_bind T
    obtain ⟨g38, T⟩ := tt_gd T
    have kp37 : kdC p37 = 10 := of_decide_eq_true g38
    refine g_getD (k := 2) (q := p37) C dX7_readGuest_128 (hpC rfl rfl) rfl fl_X7_31 rfl ep37 ?_
    refine g_dup C dX7_readGuest_131 rfl ?_
    refine g_getI (k := 8) C dX7_readGuest_132 (hpC kp37 rfl) kp37 fl_X7_161 rfl ?_
    refine g_iconst (v := 1) C dX7_readGuest_135 (by decide) ?_
    refine g_iadd C dX7_readGuest_136 ?_
    obtain ⟨h39, eh39, T⟩ := tt_lt T
    refine g_putI (k := 8) C dX7_readGuest_137 (hpC kp37 rfl) kp37 fp_X7_161 rfl eh39 ?_
    exact g_vret C dX7_readGuest_140 (hR _ (tt_some T))

noncomputable def f7_readGuest_17 (s0 : Int32) (h : Hp) : Option (Hp) :=
  (f7_check s0 2 h).bind fun h4 => (f7_step h4).bind fun h5 => (f7_takeName h5).bind fun (r6, h7) => (h7.2.2 3 2).bind fun p8 => gd (decide (kdC p8 = 10)) <| (f10_guestNamed p8 r6 h7).bind fun r10 => if r10 = (-1) then (f7_readGuest_48 r6 1 h7) else (f7_readGuest_48 r6 0 h7)
set_option maxRecDepth 100000 in
set_option maxHeartbeats 4000000 in
theorem k_f7_readGuest_17 {x : Mx} {l : Launch} {post0 : Option Value → Hp → Prop} (C : Cx ΛC x l RX7 cX7_readGuest rm_f7_readGuest none 4 post0) {K : Hp → Prop} (s0 : Int32) (h : Hp) (hR : ∀ h : Hp, K h → post0 none h) (T : Tt (f7_readGuest_17 s0 h) K) : G ΛC x 17 [(0, .ref 3)] [.int s0, .ref 3] h := by
  refine g_iconst (v := 2) C dX7_readGuest_17 (by decide) ?_
  refine g_callV (p := 3) (As := [.int s0, .int 2]) C dX7_readGuest_18 ml_X7_92 yv_f7_check ⟨rfl, rfl⟩ ⟨Nat.le_of_ble_eq_true rfl, Nat.le_of_ble_eq_true rfl⟩ (hpC rfl rfl) rfl rfl rfl (Nat.le_of_ble_eq_true rfl) (ok_f7_check s0 2 h (tt_bind T)) ?_
  rintro _ h4 ⟨rfl, T⟩
  show G ΛC x 21 [(0, .ref 3)] [] h4
  refine g_aload_n (q := 0) C dX7_readGuest_21 rfl rfl ?_
  refine g_callV (p := 3) (As := []) C dX7_readGuest_22 ml_X7_96 yv_f7_step ⟨rfl, rfl⟩ ⟨Nat.le_of_ble_eq_true rfl, Nat.le_of_ble_eq_true rfl⟩ (hpC rfl rfl) rfl rfl rfl (Nat.le_of_ble_eq_true rfl) (ok_f7_step h4 (tt_bind T)) ?_
  rintro _ h5 ⟨rfl, T⟩
  show G ΛC x 25 [(0, .ref 3)] [] h5
  refine g_aload_n (q := 0) C dX7_readGuest_25 rfl rfl ?_
  refine g_callV (p := 3) (As := []) C dX7_readGuest_26 ml_X7_102 yv_f7_takeName ⟨rfl, rfl⟩ ⟨Nat.le_of_ble_eq_true rfl, Nat.le_of_ble_eq_true rfl⟩ (hpC rfl rfl) rfl rfl rfl (Nat.le_of_ble_eq_true rfl) (ok_f7_takeName h5 (tt_bind T)) ?_
  rintro _ h7 ⟨r6, rfl, T⟩
  show G ΛC x 29 [(0, .ref 3)] [.int r6] h7
  refine g_istore_n (L' := [(1, .int r6), (0, .ref 3)]) C dX7_readGuest_29 rfl (by decide) rfl ?_
  refine g_aload_n (q := 1) C dX7_readGuest_30 rfl rfl ?_
  refine g_aload_n (q := 1) C dX7_readGuest_31 rfl rfl ?_
  obtain ⟨p8, ep8, T⟩ := tt_bind T
  obtain ⟨g9, T⟩ := tt_gd T
  have kp8 : kdC p8 = 10 := of_decide_eq_true g9
  refine g_getD (k := 2) (q := p8) C dX7_readGuest_32 (hpC rfl rfl) rfl fl_X7_31 rfl ep8 ?_
  refine g_iload_n (q := 0) C dX7_readGuest_35 rfl rfl ?_
  refine g_callV (p := p8) (As := [.int r6]) C dX7_readGuest_36 ml_X7_164 yv_f10_guestNamed ⟨rfl, rfl⟩ ⟨Nat.le_of_ble_eq_true rfl, Nat.le_of_ble_eq_true rfl⟩ (hpC kp8 rfl) kp8 rfl rfl (Nat.le_of_ble_eq_true rfl) (ok_f10_guestNamed p8 r6 kp8 h7 (tt_bind T)) ?_
  rintro _ _ ⟨r10, rfl, rfl, T⟩
  show G ΛC x 39 [(1, .int r6), (0, .ref 3)] [.int r10, .ref 3] h7
  refine g_iconst (v := (-1)) C dX7_readGuest_39 (by decide) ?_
  refine g_icmp_ne (tgt := 47) C dX7_readGuest_40 (by decide) (fun c11 => ?_) (fun c11 => ?_)
  · have T := tt_f T c11
    refine g_iconst (v := 0) C dX7_readGuest_47 (by decide) ?_
    refine g_sub [1, 0] rfl ?_
    exact k_f7_readGuest_48 C r6 0 h7 hR T
  · have T := tt_t T c11
    refine g_iconst (v := 1) C dX7_readGuest_43 (by decide) ?_
    refine g_goto (tgt := 48) C dX7_readGuest_44 (by decide) ?_
    refine g_sub [1, 0] rfl ?_
    exact k_f7_readGuest_48 C r6 1 h7 hR T

noncomputable def f7_readGuest (h : Hp) : Option (Hp) :=
  (h.2.2 3 2).bind fun p1 => gd (decide (kdC p1 = 10)) <| if 5 ≤ h.1 p1 8 then (f7_readGuest_17 0 h) else (f7_readGuest_17 1 h)
set_option maxRecDepth 100000 in
set_option maxHeartbeats 4000000 in
theorem k_f7_readGuest {x : Mx} {l : Launch} {post0 : Option Value → Hp → Prop} (C : Cx ΛC x l RX7 cX7_readGuest rm_f7_readGuest none 4 post0) {K : Hp → Prop} (h : Hp) (hR : ∀ h : Hp, K h → post0 none h) (T : Tt (f7_readGuest h) K) : G ΛC x 0 [(0, .ref 3)] [] h := by
  refine g_aload_n (q := 0) C dX7_readGuest_0 rfl rfl ?_
  refine g_aload_n (q := 0) C dX7_readGuest_1 rfl rfl ?_
  obtain ⟨p1, ep1, T⟩ := tt_bind T
  obtain ⟨g2, T⟩ := tt_gd T
  have kp1 : kdC p1 = 10 := of_decide_eq_true g2
  refine g_getD (k := 2) (q := p1) C dX7_readGuest_2 (hpC rfl rfl) rfl fl_X7_31 rfl ep1 ?_
  refine g_getI (k := 8) C dX7_readGuest_5 (hpC kp1 rfl) kp1 fl_X7_161 rfl ?_
  refine g_iconst (v := 5) C dX7_readGuest_8 (by decide) ?_
  refine g_icmp_ge (tgt := 16) C dX7_readGuest_9 (by decide) (fun c3 => ?_) (fun c3 => ?_)
  · have T := tt_t T c3
    refine g_iconst (v := 0) C dX7_readGuest_16 (by decide) ?_
    exact k_f7_readGuest_17 C 0 h hR T
  · have T := tt_f T c3
    refine g_iconst (v := 1) C dX7_readGuest_12 (by decide) ?_
    refine g_goto (tgt := 17) C dX7_readGuest_13 (by decide) ?_
    exact k_f7_readGuest_17 C 1 h hR T

theorem ok_f7_readGuest {l : Launch} {K : Hp → Prop} (h : Hp) (T : Tt (f7_readGuest h) K) : Ok ΛC l yX7_readGuest cX7_readGuest 4 none rm_f7_readGuest [.ref 3] h (PVw K) :=
  Ok.of RX7 rfl (by decide) ⟨rfl, rfl⟩ (Nat.le_of_ble_eq_true rfl) (fun x C => k_f7_readGuest C h (fun _ q => ⟨rfl, q⟩) T)

abbrev rm_f7_readDamp : Room := { frames := 4, cells := 0, slots := 0, locals := 88 }
noncomputable def f7_readDamp_16 (s0 : Int32) (h : Hp) : Option (Hp) :=
  (f7_check s0 3 h).bind fun h4 => (f7_step h4).bind fun h5 => (h5.2.2 3 2).bind fun p6 => gd (decide (kdC p6 = 10)) <| (f7_takeNumber 0 100 h5).bind fun (r8, h9) => lt (wI h9 p6 9 r8) fun h10 => (h10.2.2 3 2).bind fun p11 => gd (decide (kdC p11 = 10)) <| lt (wI h10 p11 12 1) fun h13 => some (h13)
set_option maxRecDepth 100000 in
set_option maxHeartbeats 4000000 in
theorem k_f7_readDamp_16 {x : Mx} {l : Launch} {post0 : Option Value → Hp → Prop} (C : Cx ΛC x l RX7 cX7_readDamp rm_f7_readDamp none 1 post0) {K : Hp → Prop} (s0 : Int32) (h : Hp) (hR : ∀ h : Hp, K h → post0 none h) (T : Tt (f7_readDamp_16 s0 h) K) : G ΛC x 16 [(0, .ref 3)] [.int s0, .ref 3] h := by
  refine g_iconst (v := 3) C dX7_readDamp_16 (by decide) ?_
  refine g_callV (p := 3) (As := [.int s0, .int 3]) C dX7_readDamp_17 ml_X7_92 yv_f7_check ⟨rfl, rfl⟩ ⟨Nat.le_of_ble_eq_true rfl, Nat.le_of_ble_eq_true rfl⟩ (hpC rfl rfl) rfl rfl rfl (Nat.le_of_ble_eq_true rfl) (ok_f7_check s0 3 h (tt_bind T)) ?_
  rintro _ h4 ⟨rfl, T⟩
  show G ΛC x 20 [(0, .ref 3)] [] h4
  refine g_aload_n (q := 0) C dX7_readDamp_20 rfl rfl ?_
  refine g_callV (p := 3) (As := []) C dX7_readDamp_21 ml_X7_96 yv_f7_step ⟨rfl, rfl⟩ ⟨Nat.le_of_ble_eq_true rfl, Nat.le_of_ble_eq_true rfl⟩ (hpC rfl rfl) rfl rfl rfl (Nat.le_of_ble_eq_true rfl) (ok_f7_step h4 (tt_bind T)) ?_
  rintro _ h5 ⟨rfl, T⟩
  show G ΛC x 24 [(0, .ref 3)] [] h5
  refine g_aload_n (q := 0) C dX7_readDamp_24 rfl rfl ?_
  obtain ⟨p6, ep6, T⟩ := tt_bind T
  obtain ⟨g7, T⟩ := tt_gd T
  have kp6 : kdC p6 = 10 := of_decide_eq_true g7
  refine g_getD (k := 2) (q := p6) C dX7_readDamp_25 (hpC rfl rfl) rfl fl_X7_31 rfl ep6 ?_
  refine g_aload_n (q := 0) C dX7_readDamp_28 rfl rfl ?_
  refine g_iconst (v := 0) C dX7_readDamp_29 (by decide) ?_
  refine g_bipush (v := 100) C dX7_readDamp_30 (by decide) ?_
  refine g_callV (p := 3) (As := [.int 0, .int 100]) C dX7_readDamp_32 ml_X7_119 yv_f7_takeNumber ⟨rfl, rfl⟩ ⟨Nat.le_of_ble_eq_true rfl, Nat.le_of_ble_eq_true rfl⟩ (hpC rfl rfl) rfl rfl rfl (Nat.le_of_ble_eq_true rfl) (ok_f7_takeNumber 0 100 h5 (tt_bind T)) ?_
  rintro _ h9 ⟨r8, rfl, T⟩
  show G ΛC x 35 [(0, .ref 3)] [.int r8, .ref p6] h9
  obtain ⟨h10, eh10, T⟩ := tt_lt T
  refine g_putI (k := 9) C dX7_readDamp_35 (hpC kp6 rfl) kp6 fp_X7_180 rfl eh10 ?_
  refine g_aload_n (q := 0) C dX7_readDamp_38 rfl rfl ?_
  obtain ⟨p11, ep11, T⟩ := tt_bind T
  obtain ⟨g12, T⟩ := tt_gd T
  have kp11 : kdC p11 = 10 := of_decide_eq_true g12
  refine g_getD (k := 2) (q := p11) C dX7_readDamp_39 (hpC rfl rfl) rfl fl_X7_31 rfl ep11 ?_
  refine g_iconst (v := 1) C dX7_readDamp_42 (by decide) ?_
  obtain ⟨h13, eh13, T⟩ := tt_lt T
  refine g_putZ (k := 12) C dX7_readDamp_43 (hpC kp11 rfl) kp11 fp_X7_176 rfl (Or.inr rfl) eh13 ?_
  exact g_vret C dX7_readDamp_46 (hR _ (tt_some T))

noncomputable def f7_readDamp (h : Hp) : Option (Hp) :=
  (h.2.2 3 2).bind fun p1 => gd (decide (kdC p1 = 10)) <| if h.1 p1 12 = 0 then (f7_readDamp_16 1 h) else (f7_readDamp_16 0 h)
set_option maxRecDepth 100000 in
set_option maxHeartbeats 4000000 in
theorem k_f7_readDamp {x : Mx} {l : Launch} {post0 : Option Value → Hp → Prop} (C : Cx ΛC x l RX7 cX7_readDamp rm_f7_readDamp none 1 post0) {K : Hp → Prop} (h : Hp) (hR : ∀ h : Hp, K h → post0 none h) (T : Tt (f7_readDamp h) K) : G ΛC x 0 [(0, .ref 3)] [] h := by
  refine g_aload_n (q := 0) C dX7_readDamp_0 rfl rfl ?_
  refine g_aload_n (q := 0) C dX7_readDamp_1 rfl rfl ?_
  obtain ⟨p1, ep1, T⟩ := tt_bind T
  obtain ⟨g2, T⟩ := tt_gd T
  have kp1 : kdC p1 = 10 := of_decide_eq_true g2
  refine g_getD (k := 2) (q := p1) C dX7_readDamp_2 (hpC rfl rfl) rfl fl_X7_31 rfl ep1 ?_
  refine g_getI (k := 12) C dX7_readDamp_5 (hpC kp1 rfl) kp1 fl_X7_176 rfl ?_
  refine g_if_ne (tgt := 15) C dX7_readDamp_8 (by decide) (fun c3 => ?_) (fun c3 => ?_)
  · have T := tt_f T c3
    refine g_iconst (v := 0) C dX7_readDamp_15 (by decide) ?_
    exact k_f7_readDamp_16 C 0 h hR T
  · have T := tt_t T c3
    refine g_iconst (v := 1) C dX7_readDamp_11 (by decide) ?_
    refine g_goto (tgt := 16) C dX7_readDamp_12 (by decide) ?_
    exact k_f7_readDamp_16 C 1 h hR T

theorem ok_f7_readDamp {l : Launch} {K : Hp → Prop} (h : Hp) (T : Tt (f7_readDamp h) K) : Ok ΛC l yX7_readDamp cX7_readDamp 1 none rm_f7_readDamp [.ref 3] h (PVw K) :=
  Ok.of RX7 rfl (by decide) ⟨rfl, rfl⟩ (Nat.le_of_ble_eq_true rfl) (fun x C => k_f7_readDamp C h (fun _ q => ⟨rfl, q⟩) T)

abbrev rm_f7_readSeed : Room := { frames := 4, cells := 0, slots := 0, locals := 88 }
noncomputable def f7_readSeed_16 (s0 : Int32) (h : Hp) : Option (Hp) :=
  (f7_check s0 3 h).bind fun h4 => (f7_step h4).bind fun h5 => (h5.2.2 3 2).bind fun p6 => gd (decide (kdC p6 = 10)) <| (f7_takeNumber 0 99999 h5).bind fun (r8, h9) => lt (wI h9 p6 10 r8) fun h10 => (h10.2.2 3 2).bind fun p11 => gd (decide (kdC p11 = 10)) <| lt (wI h10 p11 13 1) fun h13 => some (h13)
set_option maxRecDepth 100000 in
set_option maxHeartbeats 4000000 in
theorem k_f7_readSeed_16 {x : Mx} {l : Launch} {post0 : Option Value → Hp → Prop} (C : Cx ΛC x l RX7 cX7_readSeed rm_f7_readSeed none 1 post0) {K : Hp → Prop} (s0 : Int32) (h : Hp) (hR : ∀ h : Hp, K h → post0 none h) (T : Tt (f7_readSeed_16 s0 h) K) : G ΛC x 16 [(0, .ref 3)] [.int s0, .ref 3] h := by
  refine g_iconst (v := 3) C dX7_readSeed_16 (by decide) ?_
  refine g_callV (p := 3) (As := [.int s0, .int 3]) C dX7_readSeed_17 ml_X7_92 yv_f7_check ⟨rfl, rfl⟩ ⟨Nat.le_of_ble_eq_true rfl, Nat.le_of_ble_eq_true rfl⟩ (hpC rfl rfl) rfl rfl rfl (Nat.le_of_ble_eq_true rfl) (ok_f7_check s0 3 h (tt_bind T)) ?_
  rintro _ h4 ⟨rfl, T⟩
  show G ΛC x 20 [(0, .ref 3)] [] h4
  refine g_aload_n (q := 0) C dX7_readSeed_20 rfl rfl ?_
  refine g_callV (p := 3) (As := []) C dX7_readSeed_21 ml_X7_96 yv_f7_step ⟨rfl, rfl⟩ ⟨Nat.le_of_ble_eq_true rfl, Nat.le_of_ble_eq_true rfl⟩ (hpC rfl rfl) rfl rfl rfl (Nat.le_of_ble_eq_true rfl) (ok_f7_step h4 (tt_bind T)) ?_
  rintro _ h5 ⟨rfl, T⟩
  show G ΛC x 24 [(0, .ref 3)] [] h5
  refine g_aload_n (q := 0) C dX7_readSeed_24 rfl rfl ?_
  obtain ⟨p6, ep6, T⟩ := tt_bind T
  obtain ⟨g7, T⟩ := tt_gd T
  have kp6 : kdC p6 = 10 := of_decide_eq_true g7
  refine g_getD (k := 2) (q := p6) C dX7_readSeed_25 (hpC rfl rfl) rfl fl_X7_31 rfl ep6 ?_
  refine g_aload_n (q := 0) C dX7_readSeed_28 rfl rfl ?_
  refine g_iconst (v := 0) C dX7_readSeed_29 (by decide) ?_
  refine g_ldc (v := 99999) C dX7_readSeed_30 kc_X7_186 ?_
  refine g_callV (p := 3) (As := [.int 0, .int 99999]) C dX7_readSeed_32 ml_X7_119 yv_f7_takeNumber ⟨rfl, rfl⟩ ⟨Nat.le_of_ble_eq_true rfl, Nat.le_of_ble_eq_true rfl⟩ (hpC rfl rfl) rfl rfl rfl (Nat.le_of_ble_eq_true rfl) (ok_f7_takeNumber 0 99999 h5 (tt_bind T)) ?_
  rintro _ h9 ⟨r8, rfl, T⟩
  show G ΛC x 35 [(0, .ref 3)] [.int r8, .ref p6] h9
  obtain ⟨h10, eh10, T⟩ := tt_lt T
  refine g_putI (k := 10) C dX7_readSeed_35 (hpC kp6 rfl) kp6 fp_X7_187 rfl eh10 ?_
  refine g_aload_n (q := 0) C dX7_readSeed_38 rfl rfl ?_
  obtain ⟨p11, ep11, T⟩ := tt_bind T
  obtain ⟨g12, T⟩ := tt_gd T
  have kp11 : kdC p11 = 10 := of_decide_eq_true g12
  refine g_getD (k := 2) (q := p11) C dX7_readSeed_39 (hpC rfl rfl) rfl fl_X7_31 rfl ep11 ?_
  refine g_iconst (v := 1) C dX7_readSeed_42 (by decide) ?_
  obtain ⟨h13, eh13, T⟩ := tt_lt T
  refine g_putZ (k := 13) C dX7_readSeed_43 (hpC kp11 rfl) kp11 fp_X7_183 rfl (Or.inr rfl) eh13 ?_
  exact g_vret C dX7_readSeed_46 (hR _ (tt_some T))

noncomputable def f7_readSeed (h : Hp) : Option (Hp) :=
  (h.2.2 3 2).bind fun p1 => gd (decide (kdC p1 = 10)) <| if h.1 p1 13 = 0 then (f7_readSeed_16 1 h) else (f7_readSeed_16 0 h)
set_option maxRecDepth 100000 in
set_option maxHeartbeats 4000000 in
theorem k_f7_readSeed {x : Mx} {l : Launch} {post0 : Option Value → Hp → Prop} (C : Cx ΛC x l RX7 cX7_readSeed rm_f7_readSeed none 1 post0) {K : Hp → Prop} (h : Hp) (hR : ∀ h : Hp, K h → post0 none h) (T : Tt (f7_readSeed h) K) : G ΛC x 0 [(0, .ref 3)] [] h := by
  refine g_aload_n (q := 0) C dX7_readSeed_0 rfl rfl ?_
  refine g_aload_n (q := 0) C dX7_readSeed_1 rfl rfl ?_
  obtain ⟨p1, ep1, T⟩ := tt_bind T
  obtain ⟨g2, T⟩ := tt_gd T
  have kp1 : kdC p1 = 10 := of_decide_eq_true g2
  refine g_getD (k := 2) (q := p1) C dX7_readSeed_2 (hpC rfl rfl) rfl fl_X7_31 rfl ep1 ?_
  refine g_getI (k := 13) C dX7_readSeed_5 (hpC kp1 rfl) kp1 fl_X7_183 rfl ?_
  refine g_if_ne (tgt := 15) C dX7_readSeed_8 (by decide) (fun c3 => ?_) (fun c3 => ?_)
  · have T := tt_f T c3
    refine g_iconst (v := 0) C dX7_readSeed_15 (by decide) ?_
    exact k_f7_readSeed_16 C 0 h hR T
  · have T := tt_t T c3
    refine g_iconst (v := 1) C dX7_readSeed_11 (by decide) ?_
    refine g_goto (tgt := 16) C dX7_readSeed_12 (by decide) ?_
    exact k_f7_readSeed_16 C 1 h hR T

theorem ok_f7_readSeed {l : Launch} {K : Hp → Prop} (h : Hp) (T : Tt (f7_readSeed h) K) : Ok ΛC l yX7_readSeed cX7_readSeed 1 none rm_f7_readSeed [.ref 3] h (PVw K) :=
  Ok.of RX7 rfl (by decide) ⟨rfl, rfl⟩ (Nat.le_of_ble_eq_true rfl) (fun x C => k_f7_readSeed C h (fun _ q => ⟨rfl, q⟩) T)

abbrev rm_f8_isWord : Room := { frames := 0, cells := 0, slots := 0, locals := 0 }
noncomputable def f8_isWord_20 (h : Hp) : Option (Int32) :=
  some 0
set_option maxRecDepth 100000 in
set_option maxHeartbeats 4000000 in
theorem k_f8_isWord_20 {x : Mx} {l : Launch} {post0 : Option Value → Hp → Prop} (C : Cx ΛC x l RX8 cX8_isWord rm_f8_isWord (some .boolean) 2 post0) {K : Int32 → Prop} (h : Hp) (hR : ∀ v : Int32, K v → post0 (some (.int v)) h) (T : Tt (f8_isWord_20 h) K) : G ΛC x 20 [] [] h := by
  refine g_iconst (v := 0) C dX8_isWord_20 (by decide) ?_
  exact g_zret C dX8_isWord_21 (Or.inl rfl) (hR _ (tt_some T))

noncomputable def f8_isWord (x1 : Int32) (h : Hp) : Option (Int32) :=
  if h.1 1 5 = 1 then (if h.1 1 6 = x1 then (some 1) else (f8_isWord_20 h)) else (f8_isWord_20 h)
set_option maxRecDepth 100000 in
set_option maxHeartbeats 4000000 in
theorem k_f8_isWord {x : Mx} {l : Launch} {post0 : Option Value → Hp → Prop} (C : Cx ΛC x l RX8 cX8_isWord rm_f8_isWord (some .boolean) 2 post0) {K : Int32 → Prop} (x1 : Int32) (h : Hp) (hR : ∀ v : Int32, K v → post0 (some (.int v)) h) (T : Tt (f8_isWord x1 h) K) : G ΛC x 0 [(0, .ref 1), (1, .int x1)] [] h := by
  refine g_aload_n (q := 0) C dX8_isWord_0 rfl rfl ?_
  refine g_getI (k := 5) C dX8_isWord_1 (hpC rfl rfl) rfl fl_X8_34 rfl ?_
  refine g_iconst (v := 1) C dX8_isWord_4 (by decide) ?_
  refine g_icmp_ne (tgt := 20) C dX8_isWord_5 (by decide) (fun c1 => ?_) (fun c1 => ?_)
  · have T := tt_f T c1
    refine g_sub [] rfl ?_
    exact k_f8_isWord_20 C h hR T
  · have T := tt_t T c1
    refine g_aload_n (q := 0) C dX8_isWord_8 rfl rfl ?_
    refine g_getI (k := 6) C dX8_isWord_9 (hpC rfl rfl) rfl fl_X8_37 rfl ?_
    refine g_iload_n (q := 1) C dX8_isWord_12 rfl rfl ?_
    refine g_icmp_ne (tgt := 20) C dX8_isWord_13 (by decide) (fun c2 => ?_) (fun c2 => ?_)
    · have T := tt_f T c2
      refine g_sub [] rfl ?_
      exact k_f8_isWord_20 C h hR T
    · have T := tt_t T c2
      refine g_iconst (v := 1) C dX8_isWord_16 (by decide) ?_
      refine g_goto (tgt := 21) C dX8_isWord_17 (by decide) ?_
      exact g_zret C dX8_isWord_21 (Or.inr rfl) (hR _ (tt_some T))

theorem ok_f8_isWord {l : Launch} {K : Int32 → Prop} (x1 : Int32) (h : Hp) (T : Tt (f8_isWord x1 h) K) : Ok ΛC l yX8_isWord cX8_isWord 2 (some .boolean) rm_f8_isWord [.ref 1, .int x1] h (PIs K h) :=
  Ok.of RX8 rfl (by decide) ⟨rfl, rfl⟩ (Nat.le_of_ble_eq_true rfl) (fun x C => k_f8_isWord C x1 h (fun v q => ⟨v, rfl, rfl, q⟩) T)

abbrev rm_f5_isTold : Room := { frames := 0, cells := 0, slots := 0, locals := 0 }
noncomputable def f5_isTold (x0 : Nat) (x1 : Int32) (h : Hp) : Option (Int32) :=
  gd (inb x1 3) <| gd (inb x1 3) <| if h.1 (x0 + 4) (ix x1) ≤ h.1 (x0 + 3) (ix x1) then (some 0) else (some 1)
set_option maxRecDepth 100000 in
set_option maxHeartbeats 4000000 in
theorem k_f5_isTold {x : Mx} {l : Launch} {post0 : Option Value → Hp → Prop} (C : Cx ΛC x l RX5 cX5_isTold rm_f5_isTold (some .boolean) 2 post0) {K : Int32 → Prop} (x0 : Nat) (x1 : Int32) (kx0 : kdC x0 = 5) (h : Hp) (hR : ∀ v : Int32, K v → post0 (some (.int v)) h) (T : Tt (f5_isTold x0 x1 h) K) : G ΛC x 0 [(0, .ref x0), (1, .int x1)] [] h := by
  refine g_aload_n (q := 0) C dX5_isTold_0 rfl rfl ?_
  refine g_getF (k := 3) (q := x0 + 4) C dX5_isTold_1 (hpC kx0 rfl) kx0 fl_X5_21 rfl rfl ?_
  refine g_iload_n (q := 1) C dX5_isTold_4 rfl rfl ?_
  obtain ⟨g1, T⟩ := tt_gd T
  refine g_iald C dX5_isTold_5 (hpC (kf_5_3 kx0) rfl) (kf_5_3 kx0) (inb_of (lf_5_3 kx0) g1) ?_
  refine g_aload_n (q := 0) C dX5_isTold_6 rfl rfl ?_
  refine g_getF (k := 2) (q := x0 + 3) C dX5_isTold_7 (hpC kx0 rfl) kx0 fl_X5_18 rfl rfl ?_
  refine g_iload_n (q := 1) C dX5_isTold_10 rfl rfl ?_
  obtain ⟨g2, T⟩ := tt_gd T
  refine g_iald C dX5_isTold_11 (hpC (kf_5_2 kx0) rfl) (kf_5_2 kx0) (inb_of (lf_5_2 kx0) g2) ?_
  refine g_icmp_le (tgt := 19) C dX5_isTold_12 (by decide) (fun c3 => ?_) (fun c3 => ?_)
  · have T := tt_t T c3
    refine g_iconst (v := 0) C dX5_isTold_19 (by decide) ?_
    exact g_zret C dX5_isTold_20 (Or.inl rfl) (hR _ (tt_some T))
  · have T := tt_f T c3
    refine g_iconst (v := 1) C dX5_isTold_15 (by decide) ?_
    refine g_goto (tgt := 20) C dX5_isTold_16 (by decide) ?_
    exact g_zret C dX5_isTold_20 (Or.inr rfl) (hR _ (tt_some T))

theorem ok_f5_isTold {l : Launch} {K : Int32 → Prop} (x0 : Nat) (x1 : Int32) (kx0 : kdC x0 = 5) (h : Hp) (T : Tt (f5_isTold x0 x1 h) K) : Ok ΛC l yX5_isTold cX5_isTold 2 (some .boolean) rm_f5_isTold [.ref x0, .int x1] h (PIs K h) :=
  Ok.of RX5 rfl (by decide) ⟨rfl, rfl⟩ (Nat.le_of_ble_eq_true rfl) (fun x C => k_f5_isTold C x0 x1 kx0 h (fun v q => ⟨v, rfl, rfl, q⟩) T)

abbrev rm_f8_isSign : Room := { frames := 0, cells := 0, slots := 0, locals := 0 }
noncomputable def f8_isSign_20 (h : Hp) : Option (Int32) :=
  some 0
set_option maxRecDepth 100000 in
set_option maxHeartbeats 4000000 in
theorem k_f8_isSign_20 {x : Mx} {l : Launch} {post0 : Option Value → Hp → Prop} (C : Cx ΛC x l RX8 cX8_isSign rm_f8_isSign (some .boolean) 2 post0) {K : Int32 → Prop} (h : Hp) (hR : ∀ v : Int32, K v → post0 (some (.int v)) h) (T : Tt (f8_isSign_20 h) K) : G ΛC x 20 [] [] h := by
  refine g_iconst (v := 0) C dX8_isSign_20 (by decide) ?_
  exact g_zret C dX8_isSign_21 (Or.inl rfl) (hR _ (tt_some T))

noncomputable def f8_isSign (x1 : Int32) (h : Hp) : Option (Int32) :=
  if h.1 1 5 = 3 then (if h.1 1 6 = x1 then (some 1) else (f8_isSign_20 h)) else (f8_isSign_20 h)
set_option maxRecDepth 100000 in
set_option maxHeartbeats 4000000 in
theorem k_f8_isSign {x : Mx} {l : Launch} {post0 : Option Value → Hp → Prop} (C : Cx ΛC x l RX8 cX8_isSign rm_f8_isSign (some .boolean) 2 post0) {K : Int32 → Prop} (x1 : Int32) (h : Hp) (hR : ∀ v : Int32, K v → post0 (some (.int v)) h) (T : Tt (f8_isSign x1 h) K) : G ΛC x 0 [(0, .ref 1), (1, .int x1)] [] h := by
  refine g_aload_n (q := 0) C dX8_isSign_0 rfl rfl ?_
  refine g_getI (k := 5) C dX8_isSign_1 (hpC rfl rfl) rfl fl_X8_34 rfl ?_
  refine g_iconst (v := 3) C dX8_isSign_4 (by decide) ?_
  refine g_icmp_ne (tgt := 20) C dX8_isSign_5 (by decide) (fun c1 => ?_) (fun c1 => ?_)
  · have T := tt_f T c1
    refine g_sub [] rfl ?_
    exact k_f8_isSign_20 C h hR T
  · have T := tt_t T c1
    refine g_aload_n (q := 0) C dX8_isSign_8 rfl rfl ?_
    refine g_getI (k := 6) C dX8_isSign_9 (hpC rfl rfl) rfl fl_X8_37 rfl ?_
    refine g_iload_n (q := 1) C dX8_isSign_12 rfl rfl ?_
    refine g_icmp_ne (tgt := 20) C dX8_isSign_13 (by decide) (fun c2 => ?_) (fun c2 => ?_)
    · have T := tt_f T c2
      refine g_sub [] rfl ?_
      exact k_f8_isSign_20 C h hR T
    · have T := tt_t T c2
      refine g_iconst (v := 1) C dX8_isSign_16 (by decide) ?_
      refine g_goto (tgt := 21) C dX8_isSign_17 (by decide) ?_
      exact g_zret C dX8_isSign_21 (Or.inr rfl) (hR _ (tt_some T))

theorem ok_f8_isSign {l : Launch} {K : Int32 → Prop} (x1 : Int32) (h : Hp) (T : Tt (f8_isSign x1 h) K) : Ok ΛC l yX8_isSign cX8_isSign 2 (some .boolean) rm_f8_isSign [.ref 1, .int x1] h (PIs K h) :=
  Ok.of RX8 rfl (by decide) ⟨rfl, rfl⟩ (Nat.le_of_ble_eq_true rfl) (fun x C => k_f8_isSign C x1 h (fun v q => ⟨v, rfl, rfl, q⟩) T)

abbrev rm_f4_rank : Room := { frames := 0, cells := 0, slots := 0, locals := 0 }
noncomputable def f4_rank (x0 : Int32) : Option (Int32) :=
  if x0 < 19 then (if x0 < 17 then (if x0 < 11 then (some ((x0 - 8) + 1)) else (some 4)) else (some 5)) else (some 6)
set_option maxRecDepth 100000 in
set_option maxHeartbeats 4000000 in
theorem k_f4_rank {x : Mx} {l : Launch} {post0 : Option Value → Hp → Prop} (C : Cx ΛC x l RX4 cX4_rank rm_f4_rank (some .int) 1 post0) {K : Int32 → Prop} (x0 : Int32) (h : Hp) (hR : ∀ v : Int32, K v → post0 (some (.int v)) h) (T : Tt (f4_rank x0) K) : G ΛC x 0 [(0, .int x0)] [] h := by
  refine g_iload_n (q := 0) C dX4_rank_0 rfl rfl ?_
  refine g_bipush (v := 19) C dX4_rank_1 (by decide) ?_
  refine g_icmp_lt (tgt := 9) C dX4_rank_3 (by decide) (fun c1 => ?_) (fun c1 => ?_)
  · have T := tt_t T c1
    refine g_iload_n (q := 0) C dX4_rank_9 rfl rfl ?_
    refine g_bipush (v := 17) C dX4_rank_10 (by decide) ?_
    refine g_icmp_lt (tgt := 17) C dX4_rank_12 (by decide) (fun c2 => ?_) (fun c2 => ?_)
    · have T := tt_t T c2
      refine g_iload_n (q := 0) C dX4_rank_17 rfl rfl ?_
      refine g_bipush (v := 11) C dX4_rank_18 (by decide) ?_
      refine g_icmp_lt (tgt := 27) C dX4_rank_20 (by decide) (fun c3 => ?_) (fun c3 => ?_)
      · have T := tt_t T c3
        refine g_iload_n (q := 0) C dX4_rank_27 rfl rfl ?_
        refine g_bipush (v := 8) C dX4_rank_28 (by decide) ?_
        refine g_isub C dX4_rank_30 ?_
        refine g_iconst (v := 1) C dX4_rank_31 (by decide) ?_
        refine g_iadd C dX4_rank_32 ?_
        exact g_iret C dX4_rank_33 (hR _ (tt_some T))
      · have T := tt_f T c3
        refine g_iconst (v := 4) C dX4_rank_23 (by decide) ?_
        refine g_goto (tgt := 33) C dX4_rank_24 (by decide) ?_
        exact g_iret C dX4_rank_33 (hR _ (tt_some T))
    · have T := tt_f T c2
      refine g_iconst (v := 5) C dX4_rank_15 (by decide) ?_
      exact g_iret C dX4_rank_16 (hR _ (tt_some T))
  · have T := tt_f T c1
    refine g_bipush (v := 6) C dX4_rank_6 (by decide) ?_
    exact g_iret C dX4_rank_8 (hR _ (tt_some T))

theorem ok_f4_rank {l : Launch} {K : Int32 → Prop} (x0 : Int32) (h : Hp) (T : Tt (f4_rank x0) K) : Ok ΛC l yX4_rank cX4_rank 1 (some .int) rm_f4_rank [.int x0] h (PIs K h) :=
  Ok.of RX4 rfl (by decide) ⟨rfl, rfl⟩ (Nat.le_of_ble_eq_true rfl) (fun x C => k_f4_rank C x0 h (fun v q => ⟨v, rfl, rfl, q⟩) T)

abbrev rm_f5_put : Room := { frames := 0, cells := 0, slots := 0, locals := 0 }
noncomputable def f5_put (x0 : Nat) (x1 : Int32) (x2 : Int32) (h : Hp) : Option (Hp) :=
  if 64 ≤ h.1 x0 5 then (some (h)) else (gd (inb (h.1 x0 5) 64) <| lt (wI h (x0 + 1) (ix (h.1 x0 5)) x1) fun h3 => gd (inb (h3.1 x0 5) 64) <| lt (wI h3 (x0 + 2) (ix (h3.1 x0 5)) x2) fun h5 => lt (wI h5 x0 5 ((h5.1 x0 5) + 1)) fun h6 => some (h6))
set_option maxRecDepth 100000 in
set_option maxHeartbeats 4000000 in
theorem k_f5_put {x : Mx} {l : Launch} {post0 : Option Value → Hp → Prop} (C : Cx ΛC x l RX5 cX5_put rm_f5_put none 3 post0) {K : Hp → Prop} (x0 : Nat) (x1 : Int32) (x2 : Int32) (kx0 : kdC x0 = 5) (h : Hp) (hR : ∀ h : Hp, K h → post0 none h) (T : Tt (f5_put x0 x1 x2 h) K) : G ΛC x 0 [(0, .ref x0), (1, .int x1), (2, .int x2)] [] h := by
  refine g_aload_n (q := 0) C dX5_put_0 rfl rfl ?_
  refine g_getI (k := 5) C dX5_put_1 (hpC kx0 rfl) kx0 fl_X5_28 rfl ?_
  refine g_bipush (v := 64) C dX5_put_4 (by decide) ?_
  refine g_icmp_ge (tgt := 39) C dX5_put_6 (by decide) (fun c1 => ?_) (fun c1 => ?_)
  · have T := tt_t T c1
    exact g_vret C dX5_put_39 (hR _ (tt_some T))
  · have T := tt_f T c1
    refine g_aload_n (q := 0) C dX5_put_9 rfl rfl ?_
    refine g_getF (k := 0) (q := x0 + 1) C dX5_put_10 (hpC kx0 rfl) kx0 fl_X5_9 rfl rfl ?_
    refine g_aload_n (q := 0) C dX5_put_13 rfl rfl ?_
    refine g_getI (k := 5) C dX5_put_14 (hpC kx0 rfl) kx0 fl_X5_28 rfl ?_
    refine g_iload_n (q := 1) C dX5_put_17 rfl rfl ?_
    obtain ⟨g2, T⟩ := tt_gd T
    obtain ⟨h3, eh3, T⟩ := tt_lt T
    refine g_iast C dX5_put_18 (hpC (kf_5_0 kx0) rfl) (kf_5_0 kx0) (inb_of (lf_5_0 kx0) g2) eh3 ?_
    refine g_aload_n (q := 0) C dX5_put_19 rfl rfl ?_
    refine g_getF (k := 1) (q := x0 + 2) C dX5_put_20 (hpC kx0 rfl) kx0 fl_X5_15 rfl rfl ?_
    refine g_aload_n (q := 0) C dX5_put_23 rfl rfl ?_
    refine g_getI (k := 5) C dX5_put_24 (hpC kx0 rfl) kx0 fl_X5_28 rfl ?_
    refine g_iload_n (q := 2) C dX5_put_27 rfl rfl ?_
    obtain ⟨g4, T⟩ := tt_gd T
    obtain ⟨h5, eh5, T⟩ := tt_lt T
    refine g_iast C dX5_put_28 (hpC (kf_5_1 kx0) rfl) (kf_5_1 kx0) (inb_of (lf_5_1 kx0) g4) eh5 ?_
    refine g_aload_n (q := 0) C dX5_put_29 rfl rfl ?_
    refine g_dup C dX5_put_30 rfl ?_
    refine g_getI (k := 5) C dX5_put_31 (hpC kx0 rfl) kx0 fl_X5_28 rfl ?_
    refine g_iconst (v := 1) C dX5_put_34 (by decide) ?_
    refine g_iadd C dX5_put_35 ?_
    obtain ⟨h6, eh6, T⟩ := tt_lt T
    refine g_putI (k := 5) C dX5_put_36 (hpC kx0 rfl) kx0 fp_X5_28 rfl eh6 ?_
    exact g_vret C dX5_put_39 (hR _ (tt_some T))

theorem ok_f5_put {l : Launch} {K : Hp → Prop} (x0 : Nat) (x1 : Int32) (x2 : Int32) (kx0 : kdC x0 = 5) (h : Hp) (T : Tt (f5_put x0 x1 x2 h) K) : Ok ΛC l yX5_put cX5_put 3 none rm_f5_put [.ref x0, .int x1, .int x2] h (PVw K) :=
  Ok.of RX5 rfl (by decide) ⟨rfl, rfl⟩ (Nat.le_of_ble_eq_true rfl) (fun x C => k_f5_put C x0 x1 x2 kx0 h (fun _ q => ⟨rfl, q⟩) T)

abbrev rm_f4_putAbove : Room := { frames := 1, cells := 0, slots := 0, locals := 22 }
noncomputable def f4_putAbove_0_s (x1 : Int32) (h : Hp) : Option ((Hp) ⊕ (Hp)) :=
  if h.1 4 3 ≤ 0 then (some (.inr (h))) else (gd (inb ((h.1 4 3) - 1) 72) <| if h.1 5 (ix ((h.1 4 3) - 1)) = 21 then (some (.inr (h))) else (gd (inb ((h.1 4 3) - 1) 72) <| (f4_rank (h.1 5 (ix ((h.1 4 3) - 1)))).bind fun r5 => if r5 < x1 then (some (.inr (h))) else (lt (wI h 4 3 ((h.1 4 3) - 1)) fun h7 => (h7.2.2 4 2).bind fun p8 => gd (decide (kdC p8 = 5)) <| gd (inb (h7.1 4 3) 72) <| (f5_put p8 (h7.1 5 (ix (h7.1 4 3))) 0 h7).bind fun h11 => some (.inl h11))))
set_option maxRecDepth 100000 in
set_option maxHeartbeats 4000000 in
theorem k_f4_putAbove_0_s {x : Mx} {l : Launch} {post0 : Option Value → Hp → Prop} (C : Cx ΛC x l RX4 cX4_putAbove rm_f4_putAbove none 2 post0) {K : (Hp) ⊕ (Hp) → Prop} (x1 : Int32) (h : Hp) (hR : ∀ h : Hp, K (.inr h) → post0 none h) (hL0 : ∀ (h : Hp), K (.inl h) → G ΛC x 0 [(0, .ref 4), (1, .int x1)] [] h) (T : Tt (f4_putAbove_0_s x1 h) K) : G ΛC x 0 [(0, .ref 4), (1, .int x1)] [] h := by
  refine g_aload_n (q := 0) C dX4_putAbove_0 rfl rfl ?_
  refine g_getI (k := 3) C dX4_putAbove_1 (hpC rfl rfl) rfl fl_X4_23 rfl ?_
  refine g_if_le (tgt := 71) C dX4_putAbove_4 (by decide) (fun c1 => ?_) (fun c1 => ?_)
  · have T := tt_t T c1
    exact g_vret C dX4_putAbove_71 (hR _ (tt_some T))
  · have T := tt_f T c1
    refine g_aload_n (q := 0) C dX4_putAbove_7 rfl rfl ?_
    refine g_getF (k := 1) (q := 5) C dX4_putAbove_8 (hpC rfl rfl) rfl fl_X4_9 rfl rfl ?_
    refine g_aload_n (q := 0) C dX4_putAbove_11 rfl rfl ?_
    refine g_getI (k := 3) C dX4_putAbove_12 (hpC rfl rfl) rfl fl_X4_23 rfl ?_
    refine g_iconst (v := 1) C dX4_putAbove_15 (by decide) ?_
    refine g_isub C dX4_putAbove_16 ?_
    obtain ⟨g2, T⟩ := tt_gd T
    refine g_iald C dX4_putAbove_17 (hpC rfl rfl) rfl (inb_of rfl g2) ?_
    refine g_bipush (v := 21) C dX4_putAbove_18 (by decide) ?_
    refine g_icmp_eq (tgt := 71) C dX4_putAbove_20 (by decide) (fun c3 => ?_) (fun c3 => ?_)
    · have T := tt_t T c3
      exact g_vret C dX4_putAbove_71 (hR _ (tt_some T))
    · have T := tt_f T c3
      refine g_aload_n (q := 0) C dX4_putAbove_23 rfl rfl ?_
      refine g_getF (k := 1) (q := 5) C dX4_putAbove_24 (hpC rfl rfl) rfl fl_X4_9 rfl rfl ?_
      refine g_aload_n (q := 0) C dX4_putAbove_27 rfl rfl ?_
      refine g_getI (k := 3) C dX4_putAbove_28 (hpC rfl rfl) rfl fl_X4_23 rfl ?_
      refine g_iconst (v := 1) C dX4_putAbove_31 (by decide) ?_
      refine g_isub C dX4_putAbove_32 ?_
      obtain ⟨g4, T⟩ := tt_gd T
      refine g_iald C dX4_putAbove_33 (hpC rfl rfl) rfl (inb_of rfl g4) ?_
      refine g_callS (As := [.int (h.1 5 (ix ((h.1 4 3) - 1)))]) C dX4_putAbove_34 ml_X4_95 ys_f4_rank ⟨rfl, rfl⟩ ⟨Nat.le_of_ble_eq_true rfl, Nat.le_of_ble_eq_true rfl⟩ rfl rfl (Nat.le_of_ble_eq_true rfl) (ok_f4_rank (h.1 5 (ix ((h.1 4 3) - 1))) h (tt_bind T)) ?_
      rintro _ _ ⟨r5, rfl, rfl, T⟩
      show G ΛC x 37 [(0, .ref 4), (1, .int x1)] [.int r5] h
      refine g_iload_n (q := 1) C dX4_putAbove_37 rfl rfl ?_
      refine g_icmp_lt (tgt := 71) C dX4_putAbove_38 (by decide) (fun c6 => ?_) (fun c6 => ?_)
      · have T := tt_t T c6
        exact g_vret C dX4_putAbove_71 (hR _ (tt_some T))
      · have T := tt_f T c6
        refine g_aload_n (q := 0) C dX4_putAbove_41 rfl rfl ?_
        refine g_dup C dX4_putAbove_42 rfl ?_
        refine g_getI (k := 3) C dX4_putAbove_43 (hpC rfl rfl) rfl fl_X4_23 rfl ?_
        refine g_iconst (v := 1) C dX4_putAbove_46 (by decide) ?_
        refine g_isub C dX4_putAbove_47 ?_
        obtain ⟨h7, eh7, T⟩ := tt_lt T
        refine g_putI (k := 3) C dX4_putAbove_48 (hpC rfl rfl) rfl fp_X4_23 rfl eh7 ?_
        refine g_aload_n (q := 0) C dX4_putAbove_51 rfl rfl ?_
        obtain ⟨p8, ep8, T⟩ := tt_bind T
        obtain ⟨g9, T⟩ := tt_gd T
        have kp8 : kdC p8 = 5 := of_decide_eq_true g9
        refine g_getD (k := 2) (q := p8) C dX4_putAbove_52 (hpC rfl rfl) rfl fl_X4_19 rfl ep8 ?_
        refine g_aload_n (q := 0) C dX4_putAbove_55 rfl rfl ?_
        refine g_getF (k := 1) (q := 5) C dX4_putAbove_56 (hpC rfl rfl) rfl fl_X4_9 rfl rfl ?_
        refine g_aload_n (q := 0) C dX4_putAbove_59 rfl rfl ?_
        refine g_getI (k := 3) C dX4_putAbove_60 (hpC rfl rfl) rfl fl_X4_23 rfl ?_
        obtain ⟨g10, T⟩ := tt_gd T
        refine g_iald C dX4_putAbove_63 (hpC rfl rfl) rfl (inb_of rfl g10) ?_
        refine g_iconst (v := 0) C dX4_putAbove_64 (by decide) ?_
        refine g_callV (p := p8) (As := [.int (h7.1 5 (ix (h7.1 4 3))), .int 0]) C dX4_putAbove_65 ml_X4_88 yv_f5_put ⟨rfl, rfl⟩ ⟨Nat.le_of_ble_eq_true rfl, Nat.le_of_ble_eq_true rfl⟩ (hpC kp8 rfl) kp8 rfl rfl (Nat.le_of_ble_eq_true rfl) (ok_f5_put p8 (h7.1 5 (ix (h7.1 4 3))) 0 kp8 h7 (tt_bind T)) ?_
        rintro _ h11 ⟨rfl, T⟩
        show G ΛC x 68 [(0, .ref 4), (1, .int x1)] [] h11
        refine g_goto (tgt := 0) C dX4_putAbove_68 (by decide) ?_
        exact hL0 _ (tt_some T)

noncomputable def f4_putAbove_0 (x1 : Int32) (h : Hp) : Option (Hp) := lp (fun z : Hp => f4_putAbove_0_s x1 z) h
theorem k_f4_putAbove_0 {x : Mx} {l : Launch} {post0 : Option Value → Hp → Prop} (C : Cx ΛC x l RX4 cX4_putAbove rm_f4_putAbove none 2 post0) {K : Hp → Prop} (x1 : Int32) (h : Hp) (hR : ∀ h : Hp, K h → post0 none h) (T : Tt (f4_putAbove_0 x1 h) K) : G ΛC x 0 [(0, .ref 4), (1, .int x1)] [] h :=
  lp_ind (f := fun z : Hp => f4_putAbove_0_s x1 z) (P := fun z : Hp => G ΛC x 0 [(0, .ref 4), (1, .int x1)] [] z) (K := K) (fun z T => k_f4_putAbove_0_s C (K := KS (fun z : Hp => G ΛC x 0 [(0, .ref 4), (1, .int x1)] [] z) K) x1 z hR (fun _ q => q) T) h T
noncomputable def f4_putAbove (x1 : Int32) (h : Hp) : Option (Hp) := f4_putAbove_0 x1 h
theorem ok_f4_putAbove {l : Launch} {K : Hp → Prop} (x1 : Int32) (h : Hp) (T : Tt (f4_putAbove x1 h) K) : Ok ΛC l yX4_putAbove cX4_putAbove 2 none rm_f4_putAbove [.ref 4, .int x1] h (PVw K) :=
  Ok.of RX4 rfl (by decide) ⟨rfl, rfl⟩ (Nat.le_of_ble_eq_true rfl) (fun x C => k_f4_putAbove_0 C x1 h (fun _ q => ⟨rfl, q⟩) T)

abbrev rm_f4_await : Room := { frames := 0, cells := 0, slots := 0, locals := 0 }
noncomputable def f4_await (x1 : Int32) (h : Hp) : Option (Hp) :=
  if 72 ≤ h.1 4 3 then (some (h)) else (gd (inb (h.1 4 3) 72) <| lt (wI h 5 (ix (h.1 4 3)) x1) fun h3 => lt (wI h3 4 3 ((h3.1 4 3) + 1)) fun h4 => some (h4))
set_option maxRecDepth 100000 in
set_option maxHeartbeats 4000000 in
theorem k_f4_await {x : Mx} {l : Launch} {post0 : Option Value → Hp → Prop} (C : Cx ΛC x l RX4 cX4_await rm_f4_await none 2 post0) {K : Hp → Prop} (x1 : Int32) (h : Hp) (hR : ∀ h : Hp, K h → post0 none h) (T : Tt (f4_await x1 h) K) : G ΛC x 0 [(0, .ref 4), (1, .int x1)] [] h := by
  refine g_aload_n (q := 0) C dX4_await_0 rfl rfl ?_
  refine g_getI (k := 3) C dX4_await_1 (hpC rfl rfl) rfl fl_X4_23 rfl ?_
  refine g_aload_n (q := 0) C dX4_await_4 rfl rfl ?_
  refine g_getF (k := 1) (q := 5) C dX4_await_5 (hpC rfl rfl) rfl fl_X4_9 rfl rfl ?_
  refine g_alen (v := 72) C dX4_await_8 (hpC rfl rfl) rfl (by decide) rfl ?_
  refine g_icmp_ge (tgt := 32) C dX4_await_9 (by decide) (fun c1 => ?_) (fun c1 => ?_)
  · have T := tt_t T c1
    exact g_vret C dX4_await_32 (hR _ (tt_some T))
  · have T := tt_f T c1
    refine g_aload_n (q := 0) C dX4_await_12 rfl rfl ?_
    refine g_getF (k := 1) (q := 5) C dX4_await_13 (hpC rfl rfl) rfl fl_X4_9 rfl rfl ?_
    refine g_aload_n (q := 0) C dX4_await_16 rfl rfl ?_
    refine g_getI (k := 3) C dX4_await_17 (hpC rfl rfl) rfl fl_X4_23 rfl ?_
    refine g_iload_n (q := 1) C dX4_await_20 rfl rfl ?_
    obtain ⟨g2, T⟩ := tt_gd T
    obtain ⟨h3, eh3, T⟩ := tt_lt T
    refine g_iast C dX4_await_21 (hpC rfl rfl) rfl (inb_of rfl g2) eh3 ?_
    refine g_aload_n (q := 0) C dX4_await_22 rfl rfl ?_
    refine g_dup C dX4_await_23 rfl ?_
    refine g_getI (k := 3) C dX4_await_24 (hpC rfl rfl) rfl fl_X4_23 rfl ?_
    refine g_iconst (v := 1) C dX4_await_27 (by decide) ?_
    refine g_iadd C dX4_await_28 ?_
    obtain ⟨h4, eh4, T⟩ := tt_lt T
    refine g_putI (k := 3) C dX4_await_29 (hpC rfl rfl) rfl fp_X4_23 rfl eh4 ?_
    exact g_vret C dX4_await_32 (hR _ (tt_some T))

theorem ok_f4_await {l : Launch} {K : Hp → Prop} (x1 : Int32) (h : Hp) (T : Tt (f4_await x1 h) K) : Ok ΛC l yX4_await cX4_await 2 none rm_f4_await [.ref 4, .int x1] h (PVw K) :=
  Ok.of RX4 rfl (by decide) ⟨rfl, rfl⟩ (Nat.le_of_ble_eq_true rfl) (fun x C => k_f4_await C x1 h (fun _ q => ⟨rfl, q⟩) T)

abbrev rm_f4_takeOpen : Room := { frames := 1, cells := 0, slots := 0, locals := 21 }
noncomputable def f4_takeOpen (h : Hp) : Option (Int32 × Hp) :=
  if h.1 4 5 = 8 then (some (2, h)) else ((f4_await 21 h).bind fun h2 => lt (wI h2 4 5 ((h2.1 4 5) + 1)) fun h3 => lt (wI h3 4 6 ((h3.1 4 6) &&& ((1 <<< ((h3.1 4 5) &&& 31)) ^^^ (-1)))) fun h4 => lt (wI h4 4 8 1) fun h5 => some (0, h5))
set_option maxRecDepth 100000 in
set_option maxHeartbeats 4000000 in
theorem k_f4_takeOpen {x : Mx} {l : Launch} {post0 : Option Value → Hp → Prop} (C : Cx ΛC x l RX4 cX4_takeOpen rm_f4_takeOpen (some .int) 1 post0) {K : Int32 × Hp → Prop} (h : Hp) (hR : ∀ (v : Int32) (h : Hp), K (v, h) → post0 (some (.int v)) h) (T : Tt (f4_takeOpen h) K) : G ΛC x 0 [(0, .ref 4)] [] h := by
  refine g_aload_n (q := 0) C dX4_takeOpen_0 rfl rfl ?_
  refine g_getI (k := 5) C dX4_takeOpen_1 (hpC rfl rfl) rfl fl_X4_33 rfl ?_
  refine g_bipush (v := 8) C dX4_takeOpen_4 (by decide) ?_
  refine g_icmp_ne (tgt := 11) C dX4_takeOpen_6 (by decide) (fun c1 => ?_) (fun c1 => ?_)
  · have T := tt_f T c1
    refine g_aload_n (q := 0) C dX4_takeOpen_11 rfl rfl ?_
    refine g_bipush (v := 21) C dX4_takeOpen_12 (by decide) ?_
    refine g_callV (p := 4) (As := [.int 21]) C dX4_takeOpen_14 ml_X4_85 yv_f4_await ⟨rfl, rfl⟩ ⟨Nat.le_of_ble_eq_true rfl, Nat.le_of_ble_eq_true rfl⟩ (hpC rfl rfl) rfl rfl rfl (Nat.le_of_ble_eq_true rfl) (ok_f4_await 21 h (tt_bind T)) ?_
    rintro _ h2 ⟨rfl, T⟩
    show G ΛC x 17 [(0, .ref 4)] [] h2
    refine g_aload_n (q := 0) C dX4_takeOpen_17 rfl rfl ?_
    refine g_dup C dX4_takeOpen_18 rfl ?_
    refine g_getI (k := 5) C dX4_takeOpen_19 (hpC rfl rfl) rfl fl_X4_33 rfl ?_
    refine g_iconst (v := 1) C dX4_takeOpen_22 (by decide) ?_
    refine g_iadd C dX4_takeOpen_23 ?_
    obtain ⟨h3, eh3, T⟩ := tt_lt T
    refine g_putI (k := 5) C dX4_takeOpen_24 (hpC rfl rfl) rfl fp_X4_33 rfl eh3 ?_
    refine g_aload_n (q := 0) C dX4_takeOpen_27 rfl rfl ?_
    refine g_dup C dX4_takeOpen_28 rfl ?_
    refine g_getI (k := 6) C dX4_takeOpen_29 (hpC rfl rfl) rfl fl_X4_36 rfl ?_
    refine g_iconst (v := 1) C dX4_takeOpen_32 (by decide) ?_
    refine g_aload_n (q := 0) C dX4_takeOpen_33 rfl rfl ?_
    refine g_getI (k := 5) C dX4_takeOpen_34 (hpC rfl rfl) rfl fl_X4_33 rfl ?_
    refine g_ishl C dX4_takeOpen_37 ?_
    refine g_iconst (v := (-1)) C dX4_takeOpen_38 (by decide) ?_
    refine g_ixor C dX4_takeOpen_39 ?_
    refine g_iand C dX4_takeOpen_40 ?_
    obtain ⟨h4, eh4, T⟩ := tt_lt T
    refine g_putI (k := 6) C dX4_takeOpen_41 (hpC rfl rfl) rfl fp_X4_36 rfl eh4 ?_
    refine g_aload_n (q := 0) C dX4_takeOpen_44 rfl rfl ?_
    refine g_iconst (v := 1) C dX4_takeOpen_45 (by decide) ?_
    obtain ⟨h5, eh5, T⟩ := tt_lt T
    refine g_putZ (k := 8) C dX4_takeOpen_46 (hpC rfl rfl) rfl fp_X4_43 rfl (Or.inr rfl) eh5 ?_
    refine g_iconst (v := 0) C dX4_takeOpen_49 (by decide) ?_
    exact g_iret C dX4_takeOpen_50 (hR _ _ (tt_some T))
  · have T := tt_t T c1
    refine g_iconst (v := 2) C dX4_takeOpen_9 (by decide) ?_
    exact g_iret C dX4_takeOpen_10 (hR _ _ (tt_some T))

theorem ok_f4_takeOpen {l : Launch} {K : Int32 × Hp → Prop} (h : Hp) (T : Tt (f4_takeOpen h) K) : Ok ΛC l yX4_takeOpen cX4_takeOpen 1 (some .int) rm_f4_takeOpen [.ref 4] h (PIw K) :=
  Ok.of RX4 rfl (by decide) ⟨rfl, rfl⟩ (Nat.le_of_ble_eq_true rfl) (fun x C => k_f4_takeOpen C h (fun v _ q => ⟨v, rfl, q⟩) T)

abbrev rm_f4_operandKind : Room := { frames := 0, cells := 0, slots := 0, locals := 0 }
noncomputable def f4_operandKind_35 (s0 : Int32) (h : Hp) : Option (Int32) :=
  if s0 = 202788000 then (some 4) else if s0 = 546786304 then (some 3) else if s0 = 549512800 then (some 6) else if s0 = 650632192 then (some 2) else if s0 = 654910919 then (some 1) else if s0 = 676516096 then (some 5) else if s0 = 844154880 then (some 7) else (some (-1))
set_option maxRecDepth 100000 in
set_option maxHeartbeats 4000000 in
theorem k_f4_operandKind_35 {x : Mx} {l : Launch} {post0 : Option Value → Hp → Prop} (C : Cx ΛC x l RX4 cX4_operandKind rm_f4_operandKind (some .int) 1 post0) {K : Int32 → Prop} (s0 : Int32) (h : Hp) (hR : ∀ v : Int32, K v → post0 (some (.int v)) h) (T : Tt (f4_operandKind_35 s0 h) K) : G ΛC x 35 [] [.int s0] h := by
  by_cases c3 : s0 = 202788000
  · have T := tt_t T c3
    refine g_lookup (tgt := 106) (off := 71) C dX4_operandKind_35 (by decide) (by rw [c3]; first | done | decide) (by decide) ?_
    refine g_iconst (v := 4) C dX4_operandKind_106 (by decide) ?_
    exact g_iret C dX4_operandKind_107 (hR _ (tt_some T))
  · have T := tt_f T c3
    by_cases c4 : s0 = 546786304
    · have T := tt_t T c4
      refine g_lookup (tgt := 104) (off := 69) C dX4_operandKind_35 (by decide) (by rw [c4]; first | done | decide) (by decide) ?_
      refine g_iconst (v := 3) C dX4_operandKind_104 (by decide) ?_
      exact g_iret C dX4_operandKind_105 (hR _ (tt_some T))
    · have T := tt_f T c4
      by_cases c5 : s0 = 549512800
      · have T := tt_t T c5
        refine g_lookup (tgt := 110) (off := 75) C dX4_operandKind_35 (by decide) (by rw [c5]; first | done | decide) (by decide) ?_
        refine g_bipush (v := 6) C dX4_operandKind_110 (by decide) ?_
        exact g_iret C dX4_operandKind_112 (hR _ (tt_some T))
      · have T := tt_f T c5
        by_cases c6 : s0 = 650632192
        · have T := tt_t T c6
          refine g_lookup (tgt := 102) (off := 67) C dX4_operandKind_35 (by decide) (by rw [c6]; first | done | decide) (by decide) ?_
          refine g_iconst (v := 2) C dX4_operandKind_102 (by decide) ?_
          exact g_iret C dX4_operandKind_103 (hR _ (tt_some T))
        · have T := tt_f T c6
          by_cases c7 : s0 = 654910919
          · have T := tt_t T c7
            refine g_lookup (tgt := 100) (off := 65) C dX4_operandKind_35 (by decide) (by rw [c7]; first | done | decide) (by decide) ?_
            refine g_iconst (v := 1) C dX4_operandKind_100 (by decide) ?_
            exact g_iret C dX4_operandKind_101 (hR _ (tt_some T))
          · have T := tt_f T c7
            by_cases c8 : s0 = 676516096
            · have T := tt_t T c8
              refine g_lookup (tgt := 108) (off := 73) C dX4_operandKind_35 (by decide) (by rw [c8]; first | done | decide) (by decide) ?_
              refine g_iconst (v := 5) C dX4_operandKind_108 (by decide) ?_
              exact g_iret C dX4_operandKind_109 (hR _ (tt_some T))
            · have T := tt_f T c8
              by_cases c9 : s0 = 844154880
              · have T := tt_t T c9
                refine g_lookup (tgt := 113) (off := 78) C dX4_operandKind_35 (by decide) (by rw [c9]; first | done | decide) (by decide) ?_
                refine g_bipush (v := 7) C dX4_operandKind_113 (by decide) ?_
                exact g_iret C dX4_operandKind_115 (hR _ (tt_some T))
              · have T := tt_f T c9
                refine g_lookup (tgt := 116) C dX4_operandKind_35 (by decide) (by show Op.lookupswitch.offset [(202788000, 71), (546786304, 69), (549512800, 75), (650632192, 67), (654910919, 65), (676516096, 73), (844154880, 78)] 81 _ = _; rw [Op.lookupswitch.offset_cons, if_neg (lk_ne c3 (by decide)), Op.lookupswitch.offset_cons, if_neg (lk_ne c4 (by decide)), Op.lookupswitch.offset_cons, if_neg (lk_ne c5 (by decide)), Op.lookupswitch.offset_cons, if_neg (lk_ne c6 (by decide)), Op.lookupswitch.offset_cons, if_neg (lk_ne c7 (by decide)), Op.lookupswitch.offset_cons, if_neg (lk_ne c8 (by decide)), Op.lookupswitch.offset_cons, if_neg (lk_ne c9 (by decide)), Op.lookupswitch.offset_nil]) (by decide) ?_
                refine g_iconst (v := (-1)) C dX4_operandKind_116 (by decide) ?_
                exact g_iret C dX4_operandKind_117 (hR _ (tt_some T))

noncomputable def f4_operandKind (h : Hp) : Option (Int32) :=
  if h.1 1 5 = 2 then (some 0) else (if h.1 1 5 = 1 then (f4_operandKind_35 (h.1 1 6) h) else (f4_operandKind_35 0 h))
set_option maxRecDepth 100000 in
set_option maxHeartbeats 4000000 in
theorem k_f4_operandKind {x : Mx} {l : Launch} {post0 : Option Value → Hp → Prop} (C : Cx ΛC x l RX4 cX4_operandKind rm_f4_operandKind (some .int) 1 post0) {K : Int32 → Prop} (h : Hp) (hR : ∀ v : Int32, K v → post0 (some (.int v)) h) (T : Tt (f4_operandKind h) K) : G ΛC x 0 [(0, .ref 4)] [] h := by
  refine g_aload_n (q := 0) C dX4_operandKind_0 rfl rfl ?_
  refine g_getA (k := 0) (q := 1) C dX4_operandKind_1 (hpC rfl rfl) rfl fl_X4_15 rfl rfl ?_
  refine g_getI (k := 5) C dX4_operandKind_4 (hpC rfl rfl) rfl fl_X4_99 rfl ?_
  refine g_iconst (v := 2) C dX4_operandKind_7 (by decide) ?_
  refine g_icmp_ne (tgt := 13) C dX4_operandKind_8 (by decide) (fun c1 => ?_) (fun c1 => ?_)
  · have T := tt_f T c1
    refine g_aload_n (q := 0) C dX4_operandKind_13 rfl rfl ?_
    refine g_getA (k := 0) (q := 1) C dX4_operandKind_14 (hpC rfl rfl) rfl fl_X4_15 rfl rfl ?_
    refine g_getI (k := 5) C dX4_operandKind_17 (hpC rfl rfl) rfl fl_X4_99 rfl ?_
    refine g_iconst (v := 1) C dX4_operandKind_20 (by decide) ?_
    refine g_icmp_ne (tgt := 34) C dX4_operandKind_21 (by decide) (fun c2 => ?_) (fun c2 => ?_)
    · have T := tt_f T c2
      refine g_iconst (v := 0) C dX4_operandKind_34 (by decide) ?_
      refine g_sub [] rfl ?_
      exact k_f4_operandKind_35 C 0 h hR T
    · have T := tt_t T c2
      refine g_aload_n (q := 0) C dX4_operandKind_24 rfl rfl ?_
      refine g_getA (k := 0) (q := 1) C dX4_operandKind_25 (hpC rfl rfl) rfl fl_X4_15 rfl rfl ?_
      refine g_getI (k := 6) C dX4_operandKind_28 (hpC rfl rfl) rfl fl_X4_82 rfl ?_
      refine g_goto (tgt := 35) C dX4_operandKind_31 (by decide) ?_
      refine g_sub [] rfl ?_
      exact k_f4_operandKind_35 C (h.1 1 6) h hR T
  · have T := tt_t T c1
    refine g_iconst (v := 0) C dX4_operandKind_11 (by decide) ?_
    exact g_iret C dX4_operandKind_12 (hR _ (tt_some T))

theorem ok_f4_operandKind {l : Launch} {K : Int32 → Prop} (h : Hp) (T : Tt (f4_operandKind h) K) : Ok ΛC l yX4_operandKind cX4_operandKind 1 (some .int) rm_f4_operandKind [.ref 4] h (PIs K h) :=
  Ok.of RX4 rfl (by decide) ⟨rfl, rfl⟩ (Nat.le_of_ble_eq_true rfl) (fun x C => k_f4_operandKind C h (fun v q => ⟨v, rfl, rfl, q⟩) T)

abbrev rm_f4_takeOperand : Room := { frames := 2, cells := 0, slots := 0, locals := 41 }
noncomputable def f4_takeOperand_134 (s0 : Int32) (s1 : Int32) (s2 : Nat) (h : Hp) : Option (Int32 × Hp) :=
  (f5_put s2 s1 s0 h).bind fun h14 => lt (wI h14 4 7 0) fun h15 => some (0, h15)
set_option maxRecDepth 100000 in
set_option maxHeartbeats 4000000 in
theorem k_f4_takeOperand_134 {x : Mx} {l : Launch} {post0 : Option Value → Hp → Prop} (C : Cx ΛC x l RX4 cX4_takeOperand rm_f4_takeOperand (some .int) 3 post0) {K : Int32 × Hp → Prop} (s0 : Int32) (s1 : Int32) (s2 : Nat) (ks2 : kdC s2 = 5) (h : Hp) (hR : ∀ (v : Int32) (h : Hp), K (v, h) → post0 (some (.int v)) h) (T : Tt (f4_takeOperand_134 s0 s1 s2 h) K) : G ΛC x 134 [(0, .ref 4)] [.int s0, .int s1, .ref s2] h := by
  refine g_callV (p := s2) (As := [.int s1, .int s0]) C dX4_takeOperand_134 ml_X4_88 yv_f5_put ⟨rfl, rfl⟩ ⟨Nat.le_of_ble_eq_true rfl, Nat.le_of_ble_eq_true rfl⟩ (hpC ks2 rfl) ks2 rfl rfl (Nat.le_of_ble_eq_true rfl) (ok_f5_put s2 s1 s0 ks2 h (tt_bind T)) ?_
  rintro _ h14 ⟨rfl, T⟩
  show G ΛC x 137 [(0, .ref 4)] [] h14
  refine g_aload_n (q := 0) C dX4_takeOperand_137 rfl rfl ?_
  refine g_iconst (v := 0) C dX4_takeOperand_138 (by decide) ?_
  obtain ⟨h15, eh15, T⟩ := tt_lt T
  refine g_putZ (k := 7) C dX4_takeOperand_139 (hpC rfl rfl) rfl fp_X4_39 rfl (Or.inl rfl) eh15 ?_
  refine g_iconst (v := 0) C dX4_takeOperand_142 (by decide) ?_
  exact g_iret C dX4_takeOperand_143 (hR _ _ (tt_some T))

noncomputable def f4_takeOperand_91 (x1 : Int32) (x2 : Int32) (h : Hp) : Option (Int32 × Hp) :=
  lt (wI h 4 4 ((h.1 4 4) + 1)) fun h9 => if x1 = 0 then ((h9.2.2 4 2).bind fun p11 => gd (decide (kdC p11 = 5)) <| if x2 = 0 then (f4_takeOperand_134 (h9.1 1 6) x2 p11 h9) else (f4_takeOperand_134 0 x2 p11 h9)) else ((f4_await 10 h9).bind fun h16 => some (0, h16))
set_option maxRecDepth 100000 in
set_option maxHeartbeats 4000000 in
theorem k_f4_takeOperand_91 {x : Mx} {l : Launch} {post0 : Option Value → Hp → Prop} (C : Cx ΛC x l RX4 cX4_takeOperand rm_f4_takeOperand (some .int) 3 post0) {K : Int32 × Hp → Prop} (x1 : Int32) (x2 : Int32) (h : Hp) (hR : ∀ (v : Int32) (h : Hp), K (v, h) → post0 (some (.int v)) h) (T : Tt (f4_takeOperand_91 x1 x2 h) K) : G ΛC x 91 [(0, .ref 4), (1, .int x1), (2, .int x2)] [] h := by
  refine g_aload_n (q := 0) C dX4_takeOperand_91 rfl rfl ?_
  refine g_dup C dX4_takeOperand_92 rfl ?_
  refine g_getI (k := 4) C dX4_takeOperand_93 (hpC rfl rfl) rfl fl_X4_32 rfl ?_
  refine g_iconst (v := 1) C dX4_takeOperand_96 (by decide) ?_
  refine g_iadd C dX4_takeOperand_97 ?_
  obtain ⟨h9, eh9, T⟩ := tt_lt T
  refine g_putI (k := 4) C dX4_takeOperand_98 (hpC rfl rfl) rfl fp_X4_32 rfl eh9 ?_
  refine g_iload_n (q := 1) C dX4_takeOperand_101 rfl rfl ?_
  refine g_if_eq (tgt := 114) C dX4_takeOperand_102 (by decide) (fun c10 => ?_) (fun c10 => ?_)
  · have T := tt_t T c10
    refine g_aload_n (q := 0) C dX4_takeOperand_114 rfl rfl ?_
    obtain ⟨p11, ep11, T⟩ := tt_bind T
    obtain ⟨g12, T⟩ := tt_gd T
    have kp11 : kdC p11 = 5 := of_decide_eq_true g12
    refine g_getD (k := 2) (q := p11) C dX4_takeOperand_115 (hpC rfl rfl) rfl fl_X4_19 rfl ep11 ?_
    refine g_iload_n (q := 2) C dX4_takeOperand_118 rfl rfl ?_
    refine g_iload_n (q := 2) C dX4_takeOperand_119 rfl rfl ?_
    refine g_if_ne (tgt := 133) C dX4_takeOperand_120 (by decide) (fun c13 => ?_) (fun c13 => ?_)
    · have T := tt_f T c13
      refine g_iconst (v := 0) C dX4_takeOperand_133 (by decide) ?_
      refine g_sub [0] rfl ?_
      exact k_f4_takeOperand_134 C 0 x2 p11 kp11 h9 hR T
    · have T := tt_t T c13
      refine g_aload_n (q := 0) C dX4_takeOperand_123 rfl rfl ?_
      refine g_getA (k := 0) (q := 1) C dX4_takeOperand_124 (hpC rfl rfl) rfl fl_X4_15 rfl rfl ?_
      refine g_getI (k := 6) C dX4_takeOperand_127 (hpC rfl rfl) rfl fl_X4_82 rfl ?_
      refine g_goto (tgt := 134) C dX4_takeOperand_130 (by decide) ?_
      refine g_sub [0] rfl ?_
      exact k_f4_takeOperand_134 C (h9.1 1 6) x2 p11 kp11 h9 hR T
  · have T := tt_f T c10
    refine g_aload_n (q := 0) C dX4_takeOperand_105 rfl rfl ?_
    refine g_bipush (v := 10) C dX4_takeOperand_106 (by decide) ?_
    refine g_callV (p := 4) (As := [.int 10]) C dX4_takeOperand_108 ml_X4_85 yv_f4_await ⟨rfl, rfl⟩ ⟨Nat.le_of_ble_eq_true rfl, Nat.le_of_ble_eq_true rfl⟩ (hpC rfl rfl) rfl rfl rfl (Nat.le_of_ble_eq_true rfl) (ok_f4_await 10 h9 (tt_bind T)) ?_
    rintro _ h16 ⟨rfl, T⟩
    show G ΛC x 111 [(0, .ref 4), (1, .int x1), (2, .int x2)] [] h16
    refine g_goto (tgt := 142) C dX4_takeOperand_111 (by decide) ?_
    refine g_iconst (v := 0) C dX4_takeOperand_142 (by decide) ?_
    exact g_iret C dX4_takeOperand_143 (hR _ _ (tt_some T))

noncomputable def f4_takeOperand_55 (x1 : Int32) (s0 : Int32) (h : Hp) : Option (Int32 × Hp) :=
  if s0 = (-1) then (some (1, h)) else (if h.1 4 4 = 64 then (some (2, h)) else (if s0 = 0 then (if h.1 1 6 ≤ 9999 then (f4_takeOperand_91 x1 s0 h) else (some (2, h))) else (f4_takeOperand_91 x1 s0 h)))
set_option maxRecDepth 100000 in
set_option maxHeartbeats 4000000 in
theorem k_f4_takeOperand_55 {x : Mx} {l : Launch} {post0 : Option Value → Hp → Prop} (C : Cx ΛC x l RX4 cX4_takeOperand rm_f4_takeOperand (some .int) 3 post0) {K : Int32 × Hp → Prop} (x1 : Int32) (s0 : Int32) (h : Hp) (hR : ∀ (v : Int32) (h : Hp), K (v, h) → post0 (some (.int v)) h) (T : Tt (f4_takeOperand_55 x1 s0 h) K) : G ΛC x 55 [(0, .ref 4), (1, .int x1)] [.int s0] h := by
  refine g_istore_n (L' := [(2, .int s0), (0, .ref 4), (1, .int x1)]) C dX4_takeOperand_55 rfl (by decide) rfl ?_
  refine g_iload_n (q := 0) C dX4_takeOperand_56 rfl rfl ?_
  refine g_iconst (v := (-1)) C dX4_takeOperand_57 (by decide) ?_
  refine g_icmp_ne (tgt := 63) C dX4_takeOperand_58 (by decide) (fun c6 => ?_) (fun c6 => ?_)
  · have T := tt_f T c6
    refine g_aload_n (q := 1) C dX4_takeOperand_63 rfl rfl ?_
    refine g_getI (k := 4) C dX4_takeOperand_64 (hpC rfl rfl) rfl fl_X4_32 rfl ?_
    refine g_bipush (v := 64) C dX4_takeOperand_67 (by decide) ?_
    refine g_icmp_eq (tgt := 89) C dX4_takeOperand_69 (by decide) (fun c7 => ?_) (fun c7 => ?_)
    · have T := tt_t T c7
      refine g_iconst (v := 2) C dX4_takeOperand_89 (by decide) ?_
      exact g_iret C dX4_takeOperand_90 (hR _ _ (tt_some T))
    · have T := tt_f T c7
      refine g_iload_n (q := 0) C dX4_takeOperand_72 rfl rfl ?_
      refine g_if_ne (tgt := 91) C dX4_takeOperand_73 (by decide) (fun c8 => ?_) (fun c8 => ?_)
      · have T := tt_f T c8
        refine g_sub [1, 2, 0] rfl ?_
        exact k_f4_takeOperand_91 C x1 s0 h hR T
      · have T := tt_t T c8
        refine g_aload_n (q := 1) C dX4_takeOperand_76 rfl rfl ?_
        refine g_getA (k := 0) (q := 1) C dX4_takeOperand_77 (hpC rfl rfl) rfl fl_X4_15 rfl rfl ?_
        refine g_getI (k := 6) C dX4_takeOperand_80 (hpC rfl rfl) rfl fl_X4_82 rfl ?_
        refine g_sipush (v := 9999) C dX4_takeOperand_83 (by decide) ?_
        refine g_icmp_le (tgt := 91) C dX4_takeOperand_86 (by decide) (fun c17 => ?_) (fun c17 => ?_)
        · have T := tt_t T c17
          refine g_sub [1, 2, 0] rfl ?_
          exact k_f4_takeOperand_91 C x1 s0 h hR T
        · have T := tt_f T c17
          refine g_iconst (v := 2) C dX4_takeOperand_89 (by decide) ?_
          exact g_iret C dX4_takeOperand_90 (hR _ _ (tt_some T))
  · have T := tt_t T c6
    refine g_iconst (v := 1) C dX4_takeOperand_61 (by decide) ?_
    exact g_iret C dX4_takeOperand_62 (hR _ _ (tt_some T))

noncomputable def f4_takeOperand_41 (s0 : Int32) (h : Hp) : Option (Int32 × Hp) :=
  if s0 = 0 then ((f4_operandKind h).bind fun r5 => f4_takeOperand_55 s0 r5 h) else (f4_takeOperand_55 s0 10 h)
set_option maxRecDepth 100000 in
set_option maxHeartbeats 4000000 in
theorem k_f4_takeOperand_41 {x : Mx} {l : Launch} {post0 : Option Value → Hp → Prop} (C : Cx ΛC x l RX4 cX4_takeOperand rm_f4_takeOperand (some .int) 3 post0) {K : Int32 × Hp → Prop} (s0 : Int32) (h : Hp) (hR : ∀ (v : Int32) (h : Hp), K (v, h) → post0 (some (.int v)) h) (T : Tt (f4_takeOperand_41 s0 h) K) : G ΛC x 41 [(0, .ref 4)] [.int s0] h := by
  refine g_istore_n (L' := [(1, .int s0), (0, .ref 4)]) C dX4_takeOperand_41 rfl (by decide) rfl ?_
  refine g_iload_n (q := 0) C dX4_takeOperand_42 rfl rfl ?_
  refine g_if_eq (tgt := 51) C dX4_takeOperand_43 (by decide) (fun c4 => ?_) (fun c4 => ?_)
  · have T := tt_t T c4
    refine g_aload_n (q := 1) C dX4_takeOperand_51 rfl rfl ?_
    refine g_callV (p := 4) (As := []) C dX4_takeOperand_52 ml_X4_79 yv_f4_operandKind ⟨rfl, rfl⟩ ⟨Nat.le_of_ble_eq_true rfl, Nat.le_of_ble_eq_true rfl⟩ (hpC rfl rfl) rfl rfl rfl (Nat.le_of_ble_eq_true rfl) (ok_f4_operandKind h (tt_bind T)) ?_
    rintro _ _ ⟨r5, rfl, rfl, T⟩
    show G ΛC x 55 [(1, .int s0), (0, .ref 4)] [.int r5] h
    refine g_sub [1, 0] rfl ?_
    exact k_f4_takeOperand_55 C s0 r5 h hR T
  · have T := tt_f T c4
    refine g_bipush (v := 10) C dX4_takeOperand_46 (by decide) ?_
    refine g_goto (tgt := 55) C dX4_takeOperand_48 (by decide) ?_
    refine g_sub [1, 0] rfl ?_
    exact k_f4_takeOperand_55 C s0 10 h hR T

noncomputable def f4_takeOperand_40 (h : Hp) : Option (Int32 × Hp) :=
  f4_takeOperand_41 0 h
set_option maxRecDepth 100000 in
set_option maxHeartbeats 4000000 in
theorem k_f4_takeOperand_40 {x : Mx} {l : Launch} {post0 : Option Value → Hp → Prop} (C : Cx ΛC x l RX4 cX4_takeOperand rm_f4_takeOperand (some .int) 3 post0) {K : Int32 × Hp → Prop} (h : Hp) (hR : ∀ (v : Int32) (h : Hp), K (v, h) → post0 (some (.int v)) h) (T : Tt (f4_takeOperand_40 h) K) : G ΛC x 40 [(0, .ref 4)] [] h := by
  refine g_iconst (v := 0) C dX4_takeOperand_40 (by decide) ?_
  exact k_f4_takeOperand_41 C 0 h hR T

noncomputable def f4_takeOperand (h : Hp) : Option (Int32 × Hp) :=
  (f8_isSign 21 h).bind fun r1 => if r1 = 0 then (if h.1 4 8 = 0 then (f4_takeOperand_40 h) else ((f8_isWord 486146048 h).bind fun r18 => if r18 = 0 then (f4_takeOperand_40 h) else (f4_takeOperand_41 1 h))) else ((f4_takeOpen h).bind fun (r20, h21) => some (r20, h21))
set_option maxRecDepth 100000 in
set_option maxHeartbeats 4000000 in
theorem k_f4_takeOperand {x : Mx} {l : Launch} {post0 : Option Value → Hp → Prop} (C : Cx ΛC x l RX4 cX4_takeOperand rm_f4_takeOperand (some .int) 3 post0) {K : Int32 × Hp → Prop} (h : Hp) (hR : ∀ (v : Int32) (h : Hp), K (v, h) → post0 (some (.int v)) h) (T : Tt (f4_takeOperand h) K) : G ΛC x 0 [(0, .ref 4)] [] h := by
  refine g_aload_n (q := 0) C dX4_takeOperand_0 rfl rfl ?_
  refine g_getA (k := 0) (q := 1) C dX4_takeOperand_1 (hpC rfl rfl) rfl fl_X4_15 rfl rfl ?_
  refine g_bipush (v := 21) C dX4_takeOperand_4 (by decide) ?_
  refine g_callV (p := 1) (As := [.int 21]) C dX4_takeOperand_6 ml_X4_46 yv_f8_isSign ⟨rfl, rfl⟩ ⟨Nat.le_of_ble_eq_true rfl, Nat.le_of_ble_eq_true rfl⟩ (hpC rfl rfl) rfl rfl rfl (Nat.le_of_ble_eq_true rfl) (ok_f8_isSign 21 h (tt_bind T)) ?_
  rintro _ _ ⟨r1, rfl, rfl, T⟩
  show G ΛC x 9 [(0, .ref 4)] [.int r1] h
  refine g_if_eq (tgt := 17) C dX4_takeOperand_9 (by decide) (fun c2 => ?_) (fun c2 => ?_)
  · have T := tt_t T c2
    refine g_aload_n (q := 0) C dX4_takeOperand_17 rfl rfl ?_
    refine g_getI (k := 8) C dX4_takeOperand_18 (hpC rfl rfl) rfl fl_X4_43 rfl ?_
    refine g_if_eq (tgt := 40) C dX4_takeOperand_21 (by decide) (fun c3 => ?_) (fun c3 => ?_)
    · have T := tt_t T c3
      exact k_f4_takeOperand_40 C h hR T
    · have T := tt_f T c3
      refine g_aload_n (q := 0) C dX4_takeOperand_24 rfl rfl ?_
      refine g_getA (k := 0) (q := 1) C dX4_takeOperand_25 (hpC rfl rfl) rfl fl_X4_15 rfl rfl ?_
      refine g_ldc (v := 486146048) C dX4_takeOperand_28 kc_X4_75 ?_
      refine g_callV (p := 1) (As := [.int 486146048]) C dX4_takeOperand_30 ml_X4_76 yv_f8_isWord ⟨rfl, rfl⟩ ⟨Nat.le_of_ble_eq_true rfl, Nat.le_of_ble_eq_true rfl⟩ (hpC rfl rfl) rfl rfl rfl (Nat.le_of_ble_eq_true rfl) (ok_f8_isWord 486146048 h (tt_bind T)) ?_
      rintro _ _ ⟨r18, rfl, rfl, T⟩
      show G ΛC x 33 [(0, .ref 4)] [.int r18] h
      refine g_if_eq (tgt := 40) C dX4_takeOperand_33 (by decide) (fun c19 => ?_) (fun c19 => ?_)
      · have T := tt_t T c19
        exact k_f4_takeOperand_40 C h hR T
      · have T := tt_f T c19
        refine g_iconst (v := 1) C dX4_takeOperand_36 (by decide) ?_
        refine g_goto (tgt := 41) C dX4_takeOperand_37 (by decide) ?_
        exact k_f4_takeOperand_41 C 1 h hR T
  · have T := tt_f T c2
    refine g_aload_n (q := 0) C dX4_takeOperand_12 rfl rfl ?_
    refine g_callV (p := 4) (As := []) C dX4_takeOperand_13 ml_X4_72 yv_f4_takeOpen ⟨rfl, rfl⟩ ⟨Nat.le_of_ble_eq_true rfl, Nat.le_of_ble_eq_true rfl⟩ (hpC rfl rfl) rfl rfl rfl (Nat.le_of_ble_eq_true rfl) (ok_f4_takeOpen h (tt_bind T)) ?_
    rintro _ h21 ⟨r20, rfl, T⟩
    show G ΛC x 16 [(0, .ref 4)] [.int r20] h21
    exact g_iret C dX4_takeOperand_16 (hR _ _ (tt_some T))

theorem ok_f4_takeOperand {l : Launch} {K : Int32 × Hp → Prop} (h : Hp) (T : Tt (f4_takeOperand h) K) : Ok ΛC l yX4_takeOperand cX4_takeOperand 3 (some .int) rm_f4_takeOperand [.ref 4] h (PIw K) :=
  Ok.of RX4 rfl (by decide) ⟨rfl, rfl⟩ (Nat.le_of_ble_eq_true rfl) (fun x C => k_f4_takeOperand C h (fun v _ q => ⟨v, rfl, q⟩) T)

abbrev rm_f4_jointKind : Room := { frames := 1, cells := 0, slots := 0, locals := 21 }
noncomputable def f4_jointKind_63 (h : Hp) : Option (Int32) :=
  some (-1)
set_option maxRecDepth 100000 in
set_option maxHeartbeats 4000000 in
theorem k_f4_jointKind_63 {x : Mx} {l : Launch} {post0 : Option Value → Hp → Prop} (C : Cx ΛC x l RX4 cX4_jointKind rm_f4_jointKind (some .int) 1 post0) {K : Int32 → Prop} (h : Hp) (hR : ∀ v : Int32, K v → post0 (some (.int v)) h) (T : Tt (f4_jointKind_63 h) K) : G ΛC x 63 [] [] h := by
  refine g_iconst (v := (-1)) C dX4_jointKind_63 (by decide) ?_
  exact g_iret C dX4_jointKind_64 (hR _ (tt_some T))

noncomputable def f4_jointKind (h : Hp) : Option (Int32) :=
  (f8_isWord 522190848 h).bind fun r1 => if r1 = 0 then ((f8_isWord 48365568 h).bind fun r3 => if r3 = 0 then (if h.1 1 5 = 3 then (if 20 < h.1 1 6 then (f4_jointKind_63 h) else (some (h.1 1 6))) else (f4_jointKind_63 h)) else (some 9)) else (some 8)
set_option maxRecDepth 100000 in
set_option maxHeartbeats 4000000 in
theorem k_f4_jointKind {x : Mx} {l : Launch} {post0 : Option Value → Hp → Prop} (C : Cx ΛC x l RX4 cX4_jointKind rm_f4_jointKind (some .int) 1 post0) {K : Int32 → Prop} (h : Hp) (hR : ∀ v : Int32, K v → post0 (some (.int v)) h) (T : Tt (f4_jointKind h) K) : G ΛC x 0 [(0, .ref 4)] [] h := by
  refine g_aload_n (q := 0) C dX4_jointKind_0 rfl rfl ?_
  refine g_getA (k := 0) (q := 1) C dX4_jointKind_1 (hpC rfl rfl) rfl fl_X4_15 rfl rfl ?_
  refine g_ldc (v := 522190848) C dX4_jointKind_4 kc_X4_102 ?_
  refine g_callV (p := 1) (As := [.int 522190848]) C dX4_jointKind_6 ml_X4_76 yv_f8_isWord ⟨rfl, rfl⟩ ⟨Nat.le_of_ble_eq_true rfl, Nat.le_of_ble_eq_true rfl⟩ (hpC rfl rfl) rfl rfl rfl (Nat.le_of_ble_eq_true rfl) (ok_f8_isWord 522190848 h (tt_bind T)) ?_
  rintro _ _ ⟨r1, rfl, rfl, T⟩
  show G ΛC x 9 [(0, .ref 4)] [.int r1] h
  refine g_if_eq (tgt := 15) C dX4_jointKind_9 (by decide) (fun c2 => ?_) (fun c2 => ?_)
  · have T := tt_t T c2
    refine g_aload_n (q := 0) C dX4_jointKind_15 rfl rfl ?_
    refine g_getA (k := 0) (q := 1) C dX4_jointKind_16 (hpC rfl rfl) rfl fl_X4_15 rfl rfl ?_
    refine g_ldc (v := 48365568) C dX4_jointKind_19 kc_X4_103 ?_
    refine g_callV (p := 1) (As := [.int 48365568]) C dX4_jointKind_21 ml_X4_76 yv_f8_isWord ⟨rfl, rfl⟩ ⟨Nat.le_of_ble_eq_true rfl, Nat.le_of_ble_eq_true rfl⟩ (hpC rfl rfl) rfl rfl rfl (Nat.le_of_ble_eq_true rfl) (ok_f8_isWord 48365568 h (tt_bind T)) ?_
    rintro _ _ ⟨r3, rfl, rfl, T⟩
    show G ΛC x 24 [(0, .ref 4)] [.int r3] h
    refine g_if_eq (tgt := 30) C dX4_jointKind_24 (by decide) (fun c4 => ?_) (fun c4 => ?_)
    · have T := tt_t T c4
      refine g_aload_n (q := 0) C dX4_jointKind_30 rfl rfl ?_
      refine g_getA (k := 0) (q := 1) C dX4_jointKind_31 (hpC rfl rfl) rfl fl_X4_15 rfl rfl ?_
      refine g_getI (k := 5) C dX4_jointKind_34 (hpC rfl rfl) rfl fl_X4_99 rfl ?_
      refine g_iconst (v := 3) C dX4_jointKind_37 (by decide) ?_
      refine g_icmp_ne (tgt := 63) C dX4_jointKind_38 (by decide) (fun c5 => ?_) (fun c5 => ?_)
      · have T := tt_f T c5
        refine g_sub [] rfl ?_
        exact k_f4_jointKind_63 C h hR T
      · have T := tt_t T c5
        refine g_aload_n (q := 0) C dX4_jointKind_41 rfl rfl ?_
        refine g_getA (k := 0) (q := 1) C dX4_jointKind_42 (hpC rfl rfl) rfl fl_X4_15 rfl rfl ?_
        refine g_getI (k := 6) C dX4_jointKind_45 (hpC rfl rfl) rfl fl_X4_82 rfl ?_
        refine g_bipush (v := 20) C dX4_jointKind_48 (by decide) ?_
        refine g_icmp_gt (tgt := 63) C dX4_jointKind_50 (by decide) (fun c6 => ?_) (fun c6 => ?_)
        · have T := tt_t T c6
          refine g_sub [] rfl ?_
          exact k_f4_jointKind_63 C h hR T
        · have T := tt_f T c6
          refine g_aload_n (q := 0) C dX4_jointKind_53 rfl rfl ?_
          refine g_getA (k := 0) (q := 1) C dX4_jointKind_54 (hpC rfl rfl) rfl fl_X4_15 rfl rfl ?_
          refine g_getI (k := 6) C dX4_jointKind_57 (hpC rfl rfl) rfl fl_X4_82 rfl ?_
          refine g_goto (tgt := 64) C dX4_jointKind_60 (by decide) ?_
          exact g_iret C dX4_jointKind_64 (hR _ (tt_some T))
    · have T := tt_f T c4
      refine g_bipush (v := 9) C dX4_jointKind_27 (by decide) ?_
      exact g_iret C dX4_jointKind_29 (hR _ (tt_some T))
  · have T := tt_f T c2
    refine g_bipush (v := 8) C dX4_jointKind_12 (by decide) ?_
    exact g_iret C dX4_jointKind_14 (hR _ (tt_some T))

theorem ok_f4_jointKind {l : Launch} {K : Int32 → Prop} (h : Hp) (T : Tt (f4_jointKind h) K) : Ok ΛC l yX4_jointKind cX4_jointKind 1 (some .int) rm_f4_jointKind [.ref 4] h (PIs K h) :=
  Ok.of RX4 rfl (by decide) ⟨rfl, rfl⟩ (Nat.le_of_ble_eq_true rfl) (fun x C => k_f4_jointKind C h (fun v q => ⟨v, rfl, rfl, q⟩) T)

abbrev rm_f4_takeJoint : Room := { frames := 2, cells := 0, slots := 0, locals := 43 }
noncomputable def f4_takeJoint_152 (x2 : Int32) (s0 : Int32) (h : Hp) : Option (Int32 × Hp) :=
  gd (bz s0) <| lt (wI h 4 8 s0) fun h14 => if x2 = 0 then (if h14.1 4 8 = 0 then (some (0, h14)) else (lt (wI h14 4 6 ((h14.1 4 6) &&& ((1 <<< ((h14.1 4 5) &&& 31)) ^^^ (-1)))) fun h17 => some (0, h17))) else (lt (wI h14 4 6 ((h14.1 4 6) ||| (1 <<< ((h14.1 4 5) &&& 31)))) fun h18 => some (0, h18))
set_option maxRecDepth 100000 in
set_option maxHeartbeats 4000000 in
theorem k_f4_takeJoint_152 {x : Mx} {l : Launch} {post0 : Option Value → Hp → Prop} (C : Cx ΛC x l RX4 cX4_takeJoint rm_f4_takeJoint (some .int) 3 post0) {K : Int32 × Hp → Prop} (x2 : Int32) (s0 : Int32) (h : Hp) (hR : ∀ (v : Int32) (h : Hp), K (v, h) → post0 (some (.int v)) h) (T : Tt (f4_takeJoint_152 x2 s0 h) K) : G ΛC x 152 [(0, .ref 4), (2, .int x2)] [.int s0, .ref 4] h := by
  obtain ⟨g13, T⟩ := tt_gd T
  obtain ⟨h14, eh14, T⟩ := tt_lt T
  refine g_putZ (k := 8) C dX4_takeJoint_152 (hpC rfl rfl) rfl fp_X4_43 rfl (bz_or g13) eh14 ?_
  refine g_iload_n (q := 1) C dX4_takeJoint_155 rfl rfl ?_
  refine g_if_eq (tgt := 177) C dX4_takeJoint_156 (by decide) (fun c15 => ?_) (fun c15 => ?_)
  · have T := tt_t T c15
    refine g_aload_n (q := 0) C dX4_takeJoint_177 rfl rfl ?_
    refine g_getI (k := 8) C dX4_takeJoint_178 (hpC rfl rfl) rfl fl_X4_43 rfl ?_
    refine g_if_eq (tgt := 201) C dX4_takeJoint_181 (by decide) (fun c16 => ?_) (fun c16 => ?_)
    · have T := tt_t T c16
      refine g_iconst (v := 0) C dX4_takeJoint_201 (by decide) ?_
      exact g_iret C dX4_takeJoint_202 (hR _ _ (tt_some T))
    · have T := tt_f T c16
      refine g_aload_n (q := 0) C dX4_takeJoint_184 rfl rfl ?_
      refine g_dup C dX4_takeJoint_185 rfl ?_
      refine g_getI (k := 6) C dX4_takeJoint_186 (hpC rfl rfl) rfl fl_X4_36 rfl ?_
      refine g_iconst (v := 1) C dX4_takeJoint_189 (by decide) ?_
      refine g_aload_n (q := 0) C dX4_takeJoint_190 rfl rfl ?_
      refine g_getI (k := 5) C dX4_takeJoint_191 (hpC rfl rfl) rfl fl_X4_33 rfl ?_
      refine g_ishl C dX4_takeJoint_194 ?_
      refine g_iconst (v := (-1)) C dX4_takeJoint_195 (by decide) ?_
      refine g_ixor C dX4_takeJoint_196 ?_
      refine g_iand C dX4_takeJoint_197 ?_
      obtain ⟨h17, eh17, T⟩ := tt_lt T
      refine g_putI (k := 6) C dX4_takeJoint_198 (hpC rfl rfl) rfl fp_X4_36 rfl eh17 ?_
      refine g_iconst (v := 0) C dX4_takeJoint_201 (by decide) ?_
      exact g_iret C dX4_takeJoint_202 (hR _ _ (tt_some T))
  · have T := tt_f T c15
    refine g_aload_n (q := 0) C dX4_takeJoint_159 rfl rfl ?_
    refine g_dup C dX4_takeJoint_160 rfl ?_
    refine g_getI (k := 6) C dX4_takeJoint_161 (hpC rfl rfl) rfl fl_X4_36 rfl ?_
    refine g_iconst (v := 1) C dX4_takeJoint_164 (by decide) ?_
    refine g_aload_n (q := 0) C dX4_takeJoint_165 rfl rfl ?_
    refine g_getI (k := 5) C dX4_takeJoint_166 (hpC rfl rfl) rfl fl_X4_33 rfl ?_
    refine g_ishl C dX4_takeJoint_169 ?_
    refine g_ior C dX4_takeJoint_170 ?_
    obtain ⟨h18, eh18, T⟩ := tt_lt T
    refine g_putI (k := 6) C dX4_takeJoint_171 (hpC rfl rfl) rfl fp_X4_36 rfl eh18 ?_
    refine g_goto (tgt := 201) C dX4_takeJoint_174 (by decide) ?_
    refine g_iconst (v := 0) C dX4_takeJoint_201 (by decide) ?_
    exact g_iret C dX4_takeJoint_202 (hR _ _ (tt_some T))

noncomputable def f4_takeJoint_147 (x2 : Int32) (h : Hp) : Option (Int32 × Hp) :=
  f4_takeJoint_152 x2 1 h
set_option maxRecDepth 100000 in
set_option maxHeartbeats 4000000 in
theorem k_f4_takeJoint_147 {x : Mx} {l : Launch} {post0 : Option Value → Hp → Prop} (C : Cx ΛC x l RX4 cX4_takeJoint rm_f4_takeJoint (some .int) 3 post0) {K : Int32 × Hp → Prop} (x2 : Int32) (h : Hp) (hR : ∀ (v : Int32) (h : Hp), K (v, h) → post0 (some (.int v)) h) (T : Tt (f4_takeJoint_147 x2 h) K) : G ΛC x 147 [(0, .ref 4), (2, .int x2)] [.ref 4] h := by
  refine g_iconst (v := 1) C dX4_takeJoint_147 (by decide) ?_
  refine g_goto (tgt := 152) C dX4_takeJoint_148 (by decide) ?_
  exact k_f4_takeJoint_152 C x2 1 h hR T

noncomputable def f4_takeJoint_95 (x1 : Int32) (x2 : Int32) (h : Hp) : Option (Int32 × Hp) :=
  if h.1 4 4 = 64 then (some (2, h)) else (lt (wI h 4 4 ((h.1 4 4) + 1)) fun h7 => (f4_rank x1).bind fun r8 => (f4_putAbove r8 h7).bind fun h9 => (f4_await x1 h9).bind fun h10 => lt (wI h10 4 7 1) fun h11 => if x1 = 9 then (f4_takeJoint_147 x2 h11) else (if x1 = 8 then (f4_takeJoint_147 x2 h11) else (f4_takeJoint_152 x2 0 h11)))
set_option maxRecDepth 100000 in
set_option maxHeartbeats 4000000 in
theorem k_f4_takeJoint_95 {x : Mx} {l : Launch} {post0 : Option Value → Hp → Prop} (C : Cx ΛC x l RX4 cX4_takeJoint rm_f4_takeJoint (some .int) 3 post0) {K : Int32 × Hp → Prop} (x1 : Int32) (x2 : Int32) (h : Hp) (hR : ∀ (v : Int32) (h : Hp), K (v, h) → post0 (some (.int v)) h) (T : Tt (f4_takeJoint_95 x1 x2 h) K) : G ΛC x 95 [(0, .ref 4), (1, .int x1), (2, .int x2)] [] h := by
  refine g_aload_n (q := 0) C dX4_takeJoint_95 rfl rfl ?_
  refine g_getI (k := 4) C dX4_takeJoint_96 (hpC rfl rfl) rfl fl_X4_32 rfl ?_
  refine g_bipush (v := 64) C dX4_takeJoint_99 (by decide) ?_
  refine g_icmp_ne (tgt := 106) C dX4_takeJoint_101 (by decide) (fun c6 => ?_) (fun c6 => ?_)
  · have T := tt_f T c6
    refine g_aload_n (q := 0) C dX4_takeJoint_106 rfl rfl ?_
    refine g_dup C dX4_takeJoint_107 rfl ?_
    refine g_getI (k := 4) C dX4_takeJoint_108 (hpC rfl rfl) rfl fl_X4_32 rfl ?_
    refine g_iconst (v := 1) C dX4_takeJoint_111 (by decide) ?_
    refine g_iadd C dX4_takeJoint_112 ?_
    obtain ⟨h7, eh7, T⟩ := tt_lt T
    refine g_putI (k := 4) C dX4_takeJoint_113 (hpC rfl rfl) rfl fp_X4_32 rfl eh7 ?_
    refine g_aload_n (q := 0) C dX4_takeJoint_116 rfl rfl ?_
    refine g_iload_n (q := 1) C dX4_takeJoint_117 rfl rfl ?_
    refine g_callS (As := [.int x1]) C dX4_takeJoint_118 ml_X4_95 ys_f4_rank ⟨rfl, rfl⟩ ⟨Nat.le_of_ble_eq_true rfl, Nat.le_of_ble_eq_true rfl⟩ rfl rfl (Nat.le_of_ble_eq_true rfl) (ok_f4_rank x1 h7 (tt_bind T)) ?_
    rintro _ _ ⟨r8, rfl, rfl, T⟩
    show G ΛC x 121 [(0, .ref 4), (1, .int x1), (2, .int x2)] [.int r8, .ref 4] h7
    refine g_callV (p := 4) (As := [.int r8]) C dX4_takeJoint_121 ml_X4_52 yv_f4_putAbove ⟨rfl, rfl⟩ ⟨Nat.le_of_ble_eq_true rfl, Nat.le_of_ble_eq_true rfl⟩ (hpC rfl rfl) rfl rfl rfl (Nat.le_of_ble_eq_true rfl) (ok_f4_putAbove r8 h7 (tt_bind T)) ?_
    rintro _ h9 ⟨rfl, T⟩
    show G ΛC x 124 [(0, .ref 4), (1, .int x1), (2, .int x2)] [] h9
    refine g_aload_n (q := 0) C dX4_takeJoint_124 rfl rfl ?_
    refine g_iload_n (q := 1) C dX4_takeJoint_125 rfl rfl ?_
    refine g_callV (p := 4) (As := [.int x1]) C dX4_takeJoint_126 ml_X4_85 yv_f4_await ⟨rfl, rfl⟩ ⟨Nat.le_of_ble_eq_true rfl, Nat.le_of_ble_eq_true rfl⟩ (hpC rfl rfl) rfl rfl rfl (Nat.le_of_ble_eq_true rfl) (ok_f4_await x1 h9 (tt_bind T)) ?_
    rintro _ h10 ⟨rfl, T⟩
    show G ΛC x 129 [(0, .ref 4), (1, .int x1), (2, .int x2)] [] h10
    refine g_aload_n (q := 0) C dX4_takeJoint_129 rfl rfl ?_
    refine g_iconst (v := 1) C dX4_takeJoint_130 (by decide) ?_
    obtain ⟨h11, eh11, T⟩ := tt_lt T
    refine g_putZ (k := 7) C dX4_takeJoint_131 (hpC rfl rfl) rfl fp_X4_39 rfl (Or.inr rfl) eh11 ?_
    refine g_aload_n (q := 0) C dX4_takeJoint_134 rfl rfl ?_
    refine g_iload_n (q := 1) C dX4_takeJoint_135 rfl rfl ?_
    refine g_bipush (v := 9) C dX4_takeJoint_136 (by decide) ?_
    refine g_icmp_eq (tgt := 147) C dX4_takeJoint_138 (by decide) (fun c12 => ?_) (fun c12 => ?_)
    · have T := tt_t T c12
      refine g_sub [0, 2] rfl ?_
      exact k_f4_takeJoint_147 C x2 h11 hR T
    · have T := tt_f T c12
      refine g_iload_n (q := 1) C dX4_takeJoint_141 rfl rfl ?_
      refine g_bipush (v := 8) C dX4_takeJoint_142 (by decide) ?_
      refine g_icmp_ne (tgt := 151) C dX4_takeJoint_144 (by decide) (fun c19 => ?_) (fun c19 => ?_)
      · have T := tt_f T c19
        refine g_iconst (v := 0) C dX4_takeJoint_151 (by decide) ?_
        refine g_sub [0, 2] rfl ?_
        exact k_f4_takeJoint_152 C x2 0 h11 hR T
      · have T := tt_t T c19
        refine g_sub [0, 2] rfl ?_
        exact k_f4_takeJoint_147 C x2 h11 hR T
  · have T := tt_t T c6
    refine g_iconst (v := 2) C dX4_takeJoint_104 (by decide) ?_
    exact g_iret C dX4_takeJoint_105 (hR _ _ (tt_some T))

noncomputable def f4_takeJoint_68 (x1 : Int32) (s0 : Int32) (h : Hp) : Option (Int32 × Hp) :=
  if x1 = (-1) then (some (1, h)) else (if s0 = 0 then (f4_takeJoint_95 x1 s0 h) else (if ((h.1 4 6) >>> ((h.1 4 5) &&& 31)) &&& 1 = 1 then (some (1, h)) else (f4_takeJoint_95 x1 s0 h)))
set_option maxRecDepth 100000 in
set_option maxHeartbeats 4000000 in
theorem k_f4_takeJoint_68 {x : Mx} {l : Launch} {post0 : Option Value → Hp → Prop} (C : Cx ΛC x l RX4 cX4_takeJoint rm_f4_takeJoint (some .int) 3 post0) {K : Int32 × Hp → Prop} (x1 : Int32) (s0 : Int32) (h : Hp) (hR : ∀ (v : Int32) (h : Hp), K (v, h) → post0 (some (.int v)) h) (T : Tt (f4_takeJoint_68 x1 s0 h) K) : G ΛC x 68 [(0, .ref 4), (1, .int x1)] [.int s0] h := by
  refine g_istore_n (L' := [(2, .int s0), (0, .ref 4), (1, .int x1)]) C dX4_takeJoint_68 rfl (by decide) rfl ?_
  refine g_iload_n (q := 2) C dX4_takeJoint_69 rfl rfl ?_
  refine g_iconst (v := (-1)) C dX4_takeJoint_70 (by decide) ?_
  refine g_icmp_eq (tgt := 93) C dX4_takeJoint_71 (by decide) (fun c4 => ?_) (fun c4 => ?_)
  · have T := tt_t T c4
    refine g_iconst (v := 1) C dX4_takeJoint_93 (by decide) ?_
    exact g_iret C dX4_takeJoint_94 (hR _ _ (tt_some T))
  · have T := tt_f T c4
    refine g_iload_n (q := 0) C dX4_takeJoint_74 rfl rfl ?_
    refine g_if_eq (tgt := 95) C dX4_takeJoint_75 (by decide) (fun c5 => ?_) (fun c5 => ?_)
    · have T := tt_t T c5
      refine g_sub [1, 2, 0] rfl ?_
      exact k_f4_takeJoint_95 C x1 s0 h hR T
    · have T := tt_f T c5
      refine g_aload_n (q := 1) C dX4_takeJoint_78 rfl rfl ?_
      refine g_getI (k := 6) C dX4_takeJoint_79 (hpC rfl rfl) rfl fl_X4_36 rfl ?_
      refine g_aload_n (q := 1) C dX4_takeJoint_82 rfl rfl ?_
      refine g_getI (k := 5) C dX4_takeJoint_83 (hpC rfl rfl) rfl fl_X4_33 rfl ?_
      refine g_ishr C dX4_takeJoint_86 ?_
      refine g_iconst (v := 1) C dX4_takeJoint_87 (by decide) ?_
      refine g_iand C dX4_takeJoint_88 ?_
      refine g_iconst (v := 1) C dX4_takeJoint_89 (by decide) ?_
      refine g_icmp_ne (tgt := 95) C dX4_takeJoint_90 (by decide) (fun c20 => ?_) (fun c20 => ?_)
      · have T := tt_f T c20
        refine g_sub [1, 2, 0] rfl ?_
        exact k_f4_takeJoint_95 C x1 s0 h hR T
      · have T := tt_t T c20
        refine g_iconst (v := 1) C dX4_takeJoint_93 (by decide) ?_
        exact g_iret C dX4_takeJoint_94 (hR _ _ (tt_some T))

noncomputable def f4_takeJoint_67 (x1 : Int32) (h : Hp) : Option (Int32 × Hp) :=
  f4_takeJoint_68 x1 0 h
set_option maxRecDepth 100000 in
set_option maxHeartbeats 4000000 in
theorem k_f4_takeJoint_67 {x : Mx} {l : Launch} {post0 : Option Value → Hp → Prop} (C : Cx ΛC x l RX4 cX4_takeJoint rm_f4_takeJoint (some .int) 3 post0) {K : Int32 × Hp → Prop} (x1 : Int32) (h : Hp) (hR : ∀ (v : Int32) (h : Hp), K (v, h) → post0 (some (.int v)) h) (T : Tt (f4_takeJoint_67 x1 h) K) : G ΛC x 67 [(0, .ref 4), (1, .int x1)] [] h := by
  refine g_iconst (v := 0) C dX4_takeJoint_67 (by decide) ?_
  exact k_f4_takeJoint_68 C x1 0 h hR T

noncomputable def f4_takeJoint_46 (h : Hp) : Option (Int32 × Hp) :=
  (f4_jointKind h).bind fun r2 => if r2 < 11 then (f4_takeJoint_67 r2 h) else (if 16 < r2 then (f4_takeJoint_67 r2 h) else (f4_takeJoint_68 r2 1 h))
set_option maxRecDepth 100000 in
set_option maxHeartbeats 4000000 in
theorem k_f4_takeJoint_46 {x : Mx} {l : Launch} {post0 : Option Value → Hp → Prop} (C : Cx ΛC x l RX4 cX4_takeJoint rm_f4_takeJoint (some .int) 3 post0) {K : Int32 × Hp → Prop} (h : Hp) (hR : ∀ (v : Int32) (h : Hp), K (v, h) → post0 (some (.int v)) h) (T : Tt (f4_takeJoint_46 h) K) : G ΛC x 46 [(0, .ref 4)] [] h := by
  refine g_aload_n (q := 0) C dX4_takeJoint_46 rfl rfl ?_
  refine g_callV (p := 4) (As := []) C dX4_takeJoint_47 ml_X4_92 yv_f4_jointKind ⟨rfl, rfl⟩ ⟨Nat.le_of_ble_eq_true rfl, Nat.le_of_ble_eq_true rfl⟩ (hpC rfl rfl) rfl rfl rfl (Nat.le_of_ble_eq_true rfl) (ok_f4_jointKind h (tt_bind T)) ?_
  rintro _ _ ⟨r2, rfl, rfl, T⟩
  show G ΛC x 50 [(0, .ref 4)] [.int r2] h
  refine g_istore_n (L' := [(1, .int r2), (0, .ref 4)]) C dX4_takeJoint_50 rfl (by decide) rfl ?_
  refine g_iload_n (q := 0) C dX4_takeJoint_51 rfl rfl ?_
  refine g_bipush (v := 11) C dX4_takeJoint_52 (by decide) ?_
  refine g_icmp_lt (tgt := 67) C dX4_takeJoint_54 (by decide) (fun c3 => ?_) (fun c3 => ?_)
  · have T := tt_t T c3
    refine g_sub [1, 0] rfl ?_
    exact k_f4_takeJoint_67 C r2 h hR T
  · have T := tt_f T c3
    refine g_iload_n (q := 0) C dX4_takeJoint_57 rfl rfl ?_
    refine g_bipush (v := 16) C dX4_takeJoint_58 (by decide) ?_
    refine g_icmp_gt (tgt := 67) C dX4_takeJoint_60 (by decide) (fun c21 => ?_) (fun c21 => ?_)
    · have T := tt_t T c21
      refine g_sub [1, 0] rfl ?_
      exact k_f4_takeJoint_67 C r2 h hR T
    · have T := tt_f T c21
      refine g_iconst (v := 1) C dX4_takeJoint_63 (by decide) ?_
      refine g_goto (tgt := 68) C dX4_takeJoint_64 (by decide) ?_
      refine g_sub [1, 0] rfl ?_
      exact k_f4_takeJoint_68 C r2 1 h hR T

noncomputable def f4_takeJoint (h : Hp) : Option (Int32 × Hp) :=
  if h.1 4 5 ≤ 0 then (f4_takeJoint_46 h) else ((f8_isSign 22 h).bind fun r22 => if r22 = 0 then (f4_takeJoint_46 h) else ((f4_putAbove 0 h).bind fun h24 => lt (wI h24 4 3 ((h24.1 4 3) - 1)) fun h25 => lt (wI h25 4 5 ((h25.1 4 5) - 1)) fun h26 => some (0, h26)))
set_option maxRecDepth 100000 in
set_option maxHeartbeats 4000000 in
theorem k_f4_takeJoint {x : Mx} {l : Launch} {post0 : Option Value → Hp → Prop} (C : Cx ΛC x l RX4 cX4_takeJoint rm_f4_takeJoint (some .int) 3 post0) {K : Int32 × Hp → Prop} (h : Hp) (hR : ∀ (v : Int32) (h : Hp), K (v, h) → post0 (some (.int v)) h) (T : Tt (f4_takeJoint h) K) : G ΛC x 0 [(0, .ref 4)] [] h := by
  refine g_aload_n (q := 0) C dX4_takeJoint_0 rfl rfl ?_
  refine g_getI (k := 5) C dX4_takeJoint_1 (hpC rfl rfl) rfl fl_X4_33 rfl ?_
  refine g_if_le (tgt := 46) C dX4_takeJoint_4 (by decide) (fun c1 => ?_) (fun c1 => ?_)
  · have T := tt_t T c1
    exact k_f4_takeJoint_46 C h hR T
  · have T := tt_f T c1
    refine g_aload_n (q := 0) C dX4_takeJoint_7 rfl rfl ?_
    refine g_getA (k := 0) (q := 1) C dX4_takeJoint_8 (hpC rfl rfl) rfl fl_X4_15 rfl rfl ?_
    refine g_bipush (v := 22) C dX4_takeJoint_11 (by decide) ?_
    refine g_callV (p := 1) (As := [.int 22]) C dX4_takeJoint_13 ml_X4_46 yv_f8_isSign ⟨rfl, rfl⟩ ⟨Nat.le_of_ble_eq_true rfl, Nat.le_of_ble_eq_true rfl⟩ (hpC rfl rfl) rfl rfl rfl (Nat.le_of_ble_eq_true rfl) (ok_f8_isSign 22 h (tt_bind T)) ?_
    rintro _ _ ⟨r22, rfl, rfl, T⟩
    show G ΛC x 16 [(0, .ref 4)] [.int r22] h
    refine g_if_eq (tgt := 46) C dX4_takeJoint_16 (by decide) (fun c23 => ?_) (fun c23 => ?_)
    · have T := tt_t T c23
      exact k_f4_takeJoint_46 C h hR T
    · have T := tt_f T c23
      refine g_aload_n (q := 0) C dX4_takeJoint_19 rfl rfl ?_
      refine g_iconst (v := 0) C dX4_takeJoint_20 (by decide) ?_
      refine g_callV (p := 4) (As := [.int 0]) C dX4_takeJoint_21 ml_X4_52 yv_f4_putAbove ⟨rfl, rfl⟩ ⟨Nat.le_of_ble_eq_true rfl, Nat.le_of_ble_eq_true rfl⟩ (hpC rfl rfl) rfl rfl rfl (Nat.le_of_ble_eq_true rfl) (ok_f4_putAbove 0 h (tt_bind T)) ?_
      rintro _ h24 ⟨rfl, T⟩
      show G ΛC x 24 [(0, .ref 4)] [] h24
      refine g_aload_n (q := 0) C dX4_takeJoint_24 rfl rfl ?_
      refine g_dup C dX4_takeJoint_25 rfl ?_
      refine g_getI (k := 3) C dX4_takeJoint_26 (hpC rfl rfl) rfl fl_X4_23 rfl ?_
      refine g_iconst (v := 1) C dX4_takeJoint_29 (by decide) ?_
      refine g_isub C dX4_takeJoint_30 ?_
      obtain ⟨h25, eh25, T⟩ := tt_lt T
      refine g_putI (k := 3) C dX4_takeJoint_31 (hpC rfl rfl) rfl fp_X4_23 rfl eh25 ?_
      refine g_aload_n (q := 0) C dX4_takeJoint_34 rfl rfl ?_
      refine g_dup C dX4_takeJoint_35 rfl ?_
      refine g_getI (k := 5) C dX4_takeJoint_36 (hpC rfl rfl) rfl fl_X4_33 rfl ?_
      refine g_iconst (v := 1) C dX4_takeJoint_39 (by decide) ?_
      refine g_isub C dX4_takeJoint_40 ?_
      obtain ⟨h26, eh26, T⟩ := tt_lt T
      refine g_putI (k := 5) C dX4_takeJoint_41 (hpC rfl rfl) rfl fp_X4_33 rfl eh26 ?_
      refine g_iconst (v := 0) C dX4_takeJoint_44 (by decide) ?_
      exact g_iret C dX4_takeJoint_45 (hR _ _ (tt_some T))

theorem ok_f4_takeJoint {l : Launch} {K : Int32 × Hp → Prop} (h : Hp) (T : Tt (f4_takeJoint h) K) : Ok ΛC l yX4_takeJoint cX4_takeJoint 3 (some .int) rm_f4_takeJoint [.ref 4] h (PIw K) :=
  Ok.of RX4 rfl (by decide) ⟨rfl, rfl⟩ (Nat.le_of_ble_eq_true rfl) (fun x C => k_f4_takeJoint C h (fun v _ q => ⟨v, rfl, q⟩) T)

abbrev rm_f4_readInto : Room := { frames := 3, cells := 0, slots := 0, locals := 65 }
noncomputable def f4_readInto_137 (x2 : Int32) (x3 : Int32) (x4 : Int32) (s0 : Int32) (h : Hp) : Option ((Int32 × Hp) ⊕ (Int32 × Hp)) :=
  if s0 = 0 then ((f8_next h).bind fun h19 => some (.inl (x4 + 1, h19))) else (some (.inr (s0, h)))
set_option maxRecDepth 100000 in
set_option maxHeartbeats 4000000 in
theorem k_f4_readInto_137 {x : Mx} {l : Launch} {post0 : Option Value → Hp → Prop} (C : Cx ΛC x l RX4 cX4_readInto rm_f4_readInto (some .int) 6 post0) {K : (Int32 × Hp) ⊕ (Int32 × Hp) → Prop} (x2 : Int32) (x3 : Int32) (x4 : Int32) (s0 : Int32) (h : Hp) (hR : ∀ (v : Int32) (h : Hp), K (.inr (v, h)) → post0 (some (.int v)) h) (hL52 : ∀ (x4 : Int32) (h : Hp), K (.inl (x4, h)) → G ΛC x 52 [(0, .ref 4), (2, .int x2), (3, .int x3), (4, .int x4)] [] h) (T : Tt (f4_readInto_137 x2 x3 x4 s0 h) K) : G ΛC x 137 [(0, .ref 4), (2, .int x2), (3, .int x3), (4, .int x4)] [.int s0] h := by
  refine g_istore (L' := [(5, .int s0), (0, .ref 4), (2, .int x2), (3, .int x3), (4, .int x4)]) C dX4_readInto_137 (by decide) rfl ?_
  refine g_iload (q := 0) C dX4_readInto_139 rfl ?_
  refine g_if_eq (tgt := 147) C dX4_readInto_141 (by decide) (fun c18 => ?_) (fun c18 => ?_)
  · have T := tt_t T c18
    refine g_aload_n (q := 1) C dX4_readInto_147 rfl rfl ?_
    refine g_getA (k := 0) (q := 1) C dX4_readInto_148 (hpC rfl rfl) rfl fl_X4_15 rfl rfl ?_
    refine g_callV (p := 1) (As := []) C dX4_readInto_151 ml_X4_69 yv_f8_next ⟨rfl, rfl⟩ ⟨Nat.le_of_ble_eq_true rfl, Nat.le_of_ble_eq_true rfl⟩ (hpC rfl rfl) rfl rfl rfl (Nat.le_of_ble_eq_true rfl) (ok_f8_next h (tt_bind T)) ?_
    rintro _ h19 ⟨rfl, T⟩
    show G ΛC x 154 [(5, .int s0), (0, .ref 4), (2, .int x2), (3, .int x3), (4, .int x4)] [] h19
    refine g_iinc (v := x4 + 1) (q := 4) (L' := [(4, .int (x4 + 1)), (5, .int s0), (0, .ref 4), (2, .int x2), (3, .int x3)]) C dX4_readInto_154 rfl (by first | rfl | exact congrArg _ (by decide)) (by decide) rfl ?_
    refine g_goto (tgt := 52) C dX4_readInto_157 (by decide) ?_
    refine g_sub [2, 3, 4, 0] rfl ?_
    exact hL52 _ _ (tt_some T)
  · have T := tt_f T c18
    refine g_iload (q := 0) C dX4_readInto_144 rfl ?_
    exact g_iret C dX4_readInto_146 (hR _ _ (tt_some T))

noncomputable def f4_readInto_119 (x2 : Int32) (x3 : Int32) (x4 : Int32) (h : Hp) : Option ((Int32 × Hp) ⊕ (Int32 × Hp)) :=
  if h.1 4 7 = 0 then ((f4_takeJoint h).bind fun (r16, h17) => f4_readInto_137 x2 x3 x4 r16 h17) else ((f4_takeOperand h).bind fun (r20, h21) => f4_readInto_137 x2 x3 x4 r20 h21)
set_option maxRecDepth 100000 in
set_option maxHeartbeats 4000000 in
theorem k_f4_readInto_119 {x : Mx} {l : Launch} {post0 : Option Value → Hp → Prop} (C : Cx ΛC x l RX4 cX4_readInto rm_f4_readInto (some .int) 6 post0) {K : (Int32 × Hp) ⊕ (Int32 × Hp) → Prop} (x2 : Int32) (x3 : Int32) (x4 : Int32) (h : Hp) (hR : ∀ (v : Int32) (h : Hp), K (.inr (v, h)) → post0 (some (.int v)) h) (hL52 : ∀ (x4 : Int32) (h : Hp), K (.inl (x4, h)) → G ΛC x 52 [(0, .ref 4), (2, .int x2), (3, .int x3), (4, .int x4)] [] h) (T : Tt (f4_readInto_119 x2 x3 x4 h) K) : G ΛC x 119 [(0, .ref 4), (2, .int x2), (3, .int x3), (4, .int x4)] [] h := by
  refine g_aload_n (q := 0) C dX4_readInto_119 rfl rfl ?_
  refine g_getI (k := 7) C dX4_readInto_120 (hpC rfl rfl) rfl fl_X4_39 rfl ?_
  refine g_if_eq (tgt := 133) C dX4_readInto_123 (by decide) (fun c15 => ?_) (fun c15 => ?_)
  · have T := tt_t T c15
    refine g_aload_n (q := 0) C dX4_readInto_133 rfl rfl ?_
    refine g_callV (p := 4) (As := []) C dX4_readInto_134 ml_X4_66 yv_f4_takeJoint ⟨rfl, rfl⟩ ⟨Nat.le_of_ble_eq_true rfl, Nat.le_of_ble_eq_true rfl⟩ (hpC rfl rfl) rfl rfl rfl (Nat.le_of_ble_eq_true rfl) (ok_f4_takeJoint h (tt_bind T)) ?_
    rintro _ h17 ⟨r16, rfl, T⟩
    show G ΛC x 137 [(0, .ref 4), (2, .int x2), (3, .int x3), (4, .int x4)] [.int r16] h17
    exact k_f4_readInto_137 C x2 x3 x4 r16 h17 hR hL52 T
  · have T := tt_f T c15
    refine g_aload_n (q := 0) C dX4_readInto_126 rfl rfl ?_
    refine g_callV (p := 4) (As := []) C dX4_readInto_127 ml_X4_62 yv_f4_takeOperand ⟨rfl, rfl⟩ ⟨Nat.le_of_ble_eq_true rfl, Nat.le_of_ble_eq_true rfl⟩ (hpC rfl rfl) rfl rfl rfl (Nat.le_of_ble_eq_true rfl) (ok_f4_takeOperand h (tt_bind T)) ?_
    rintro _ h21 ⟨r20, rfl, T⟩
    show G ΛC x 130 [(0, .ref 4), (2, .int x2), (3, .int x3), (4, .int x4)] [.int r20] h21
    refine g_goto (tgt := 137) C dX4_readInto_130 (by decide) ?_
    exact k_f4_readInto_137 C x2 x3 x4 r20 h21 hR hL52 T

noncomputable def f4_readInto_86 (x2 : Int32) (x3 : Int32) (h : Hp) : Option (Int32 × Hp) :=
  (f4_putAbove 0 h).bind fun h25 => (h25.2.2 4 2).bind fun p26 => gd (decide (kdC p26 = 5)) <| gd (inb x2 3) <| lt (wI h25 (p26 + 3) (ix x2) x3) fun h29 => (h29.2.2 4 2).bind fun p30 => gd (decide (kdC p30 = 5)) <| (h29.2.2 4 2).bind fun p32 => gd (decide (kdC p32 = 5)) <| gd (inb x2 3) <| lt (wI h29 (p30 + 4) (ix x2) (h29.1 p32 5)) fun h35 => some (0, h35)
set_option maxRecDepth 100000 in
set_option maxHeartbeats 4000000 in
theorem k_f4_readInto_86 {x : Mx} {l : Launch} {post0 : Option Value → Hp → Prop} (C : Cx ΛC x l RX4 cX4_readInto rm_f4_readInto (some .int) 6 post0) {K : Int32 × Hp → Prop} (x2 : Int32) (x3 : Int32) (h : Hp) (hR : ∀ (v : Int32) (h : Hp), K (v, h) → post0 (some (.int v)) h) (T : Tt (f4_readInto_86 x2 x3 h) K) : G ΛC x 86 [(0, .ref 4), (2, .int x2), (3, .int x3)] [] h := by
  refine g_aload_n (q := 0) C dX4_readInto_86 rfl rfl ?_
  refine g_iconst (v := 0) C dX4_readInto_87 (by decide) ?_
  refine g_callV (p := 4) (As := [.int 0]) C dX4_readInto_88 ml_X4_52 yv_f4_putAbove ⟨rfl, rfl⟩ ⟨Nat.le_of_ble_eq_true rfl, Nat.le_of_ble_eq_true rfl⟩ (hpC rfl rfl) rfl rfl rfl (Nat.le_of_ble_eq_true rfl) (ok_f4_putAbove 0 h (tt_bind T)) ?_
  rintro _ h25 ⟨rfl, T⟩
  show G ΛC x 91 [(0, .ref 4), (2, .int x2), (3, .int x3)] [] h25
  refine g_aload_n (q := 0) C dX4_readInto_91 rfl rfl ?_
  obtain ⟨p26, ep26, T⟩ := tt_bind T
  obtain ⟨g27, T⟩ := tt_gd T
  have kp26 : kdC p26 = 5 := of_decide_eq_true g27
  refine g_getD (k := 2) (q := p26) C dX4_readInto_92 (hpC rfl rfl) rfl fl_X4_19 rfl ep26 ?_
  refine g_getF (k := 2) (q := p26 + 3) C dX4_readInto_95 (hpC kp26 rfl) kp26 fl_X4_56 rfl rfl ?_
  refine g_iload_n (q := 1) C dX4_readInto_98 rfl rfl ?_
  refine g_iload_n (q := 2) C dX4_readInto_99 rfl rfl ?_
  obtain ⟨g28, T⟩ := tt_gd T
  obtain ⟨h29, eh29, T⟩ := tt_lt T
  refine g_iast C dX4_readInto_100 (hpC (kf_5_2 kp26) rfl) (kf_5_2 kp26) (inb_of (lf_5_2 kp26) g28) eh29 ?_
  refine g_aload_n (q := 0) C dX4_readInto_101 rfl rfl ?_
  obtain ⟨p30, ep30, T⟩ := tt_bind T
  obtain ⟨g31, T⟩ := tt_gd T
  have kp30 : kdC p30 = 5 := of_decide_eq_true g31
  refine g_getD (k := 2) (q := p30) C dX4_readInto_102 (hpC rfl rfl) rfl fl_X4_19 rfl ep30 ?_
  refine g_getF (k := 3) (q := p30 + 4) C dX4_readInto_105 (hpC kp30 rfl) kp30 fl_X4_59 rfl rfl ?_
  refine g_iload_n (q := 1) C dX4_readInto_108 rfl rfl ?_
  refine g_aload_n (q := 0) C dX4_readInto_109 rfl rfl ?_
  obtain ⟨p32, ep32, T⟩ := tt_bind T
  obtain ⟨g33, T⟩ := tt_gd T
  have kp32 : kdC p32 = 5 := of_decide_eq_true g33
  refine g_getD (k := 2) (q := p32) C dX4_readInto_110 (hpC rfl rfl) rfl fl_X4_19 rfl ep32 ?_
  refine g_getI (k := 5) C dX4_readInto_113 (hpC kp32 rfl) kp32 fl_X4_27 rfl ?_
  obtain ⟨g34, T⟩ := tt_gd T
  obtain ⟨h35, eh35, T⟩ := tt_lt T
  refine g_iast C dX4_readInto_116 (hpC (kf_5_3 kp30) rfl) (kf_5_3 kp30) (inb_of (lf_5_3 kp30) g34) eh35 ?_
  refine g_iconst (v := 0) C dX4_readInto_117 (by decide) ?_
  exact g_iret C dX4_readInto_118 (hR _ _ (tt_some T))

noncomputable def f4_readInto_52_s (x2 : Int32) (x3 : Int32) (x4 : Int32) (h : Hp) : Option ((Int32 × Hp) ⊕ (Int32 × Hp)) :=
  if 700 ≤ x4 then (some (.inr (1, h))) else (if h.1 4 7 = 0 then (if h.1 4 5 = 0 then ((f8_isSign 23 h).bind fun r23 => if r23 = 0 then (f4_readInto_119 x2 x3 x4 h) else ((f4_readInto_86 x2 x3 h).map (fun z => .inr (z)))) else (f4_readInto_119 x2 x3 x4 h)) else (f4_readInto_119 x2 x3 x4 h))
set_option maxRecDepth 100000 in
set_option maxHeartbeats 4000000 in
theorem k_f4_readInto_52_s {x : Mx} {l : Launch} {post0 : Option Value → Hp → Prop} (C : Cx ΛC x l RX4 cX4_readInto rm_f4_readInto (some .int) 6 post0) {K : (Int32 × Hp) ⊕ (Int32 × Hp) → Prop} (x2 : Int32) (x3 : Int32) (x4 : Int32) (h : Hp) (hR : ∀ (v : Int32) (h : Hp), K (.inr (v, h)) → post0 (some (.int v)) h) (hL52 : ∀ (x4 : Int32) (h : Hp), K (.inl (x4, h)) → G ΛC x 52 [(0, .ref 4), (2, .int x2), (3, .int x3), (4, .int x4)] [] h) (T : Tt (f4_readInto_52_s x2 x3 x4 h) K) : G ΛC x 52 [(0, .ref 4), (2, .int x2), (3, .int x3), (4, .int x4)] [] h := by
  refine g_iload (q := 3) C dX4_readInto_52 rfl ?_
  refine g_sipush (v := 700) C dX4_readInto_54 (by decide) ?_
  refine g_icmp_ge (tgt := 160) C dX4_readInto_57 (by decide) (fun c13 => ?_) (fun c13 => ?_)
  · have T := tt_t T c13
    refine g_iconst (v := 1) C dX4_readInto_160 (by decide) ?_
    exact g_iret C dX4_readInto_161 (hR _ _ (tt_some T))
  · have T := tt_f T c13
    refine g_aload_n (q := 0) C dX4_readInto_60 rfl rfl ?_
    refine g_getI (k := 7) C dX4_readInto_61 (hpC rfl rfl) rfl fl_X4_39 rfl ?_
    refine g_if_ne (tgt := 119) C dX4_readInto_64 (by decide) (fun c14 => ?_) (fun c14 => ?_)
    · have T := tt_f T c14
      exact k_f4_readInto_119 C x2 x3 x4 h hR hL52 T
    · have T := tt_t T c14
      refine g_aload_n (q := 0) C dX4_readInto_67 rfl rfl ?_
      refine g_getI (k := 5) C dX4_readInto_68 (hpC rfl rfl) rfl fl_X4_33 rfl ?_
      refine g_if_ne (tgt := 119) C dX4_readInto_71 (by decide) (fun c22 => ?_) (fun c22 => ?_)
      · have T := tt_f T c22
        exact k_f4_readInto_119 C x2 x3 x4 h hR hL52 T
      · have T := tt_t T c22
        refine g_aload_n (q := 0) C dX4_readInto_74 rfl rfl ?_
        refine g_getA (k := 0) (q := 1) C dX4_readInto_75 (hpC rfl rfl) rfl fl_X4_15 rfl rfl ?_
        refine g_bipush (v := 23) C dX4_readInto_78 (by decide) ?_
        refine g_callV (p := 1) (As := [.int 23]) C dX4_readInto_80 ml_X4_46 yv_f8_isSign ⟨rfl, rfl⟩ ⟨Nat.le_of_ble_eq_true rfl, Nat.le_of_ble_eq_true rfl⟩ (hpC rfl rfl) rfl rfl rfl (Nat.le_of_ble_eq_true rfl) (ok_f8_isSign 23 h (tt_bind T)) ?_
        rintro _ _ ⟨r23, rfl, rfl, T⟩
        show G ΛC x 83 [(0, .ref 4), (2, .int x2), (3, .int x3), (4, .int x4)] [.int r23] h
        refine g_if_eq (tgt := 119) C dX4_readInto_83 (by decide) (fun c24 => ?_) (fun c24 => ?_)
        · have T := tt_t T c24
          exact k_f4_readInto_119 C x2 x3 x4 h hR hL52 T
        · have T := tt_f T c24
          refine g_sub [0, 1, 2] rfl ?_
          exact k_f4_readInto_86 C x2 x3 h hR (tt_map T)

noncomputable def f4_readInto_52 (x2 : Int32) (x3 : Int32) (x4 : Int32) (h : Hp) : Option (Int32 × Hp) := lp (fun z : Int32 × Hp => f4_readInto_52_s x2 x3 z.1 z.2) (x4, h)
theorem k_f4_readInto_52 {x : Mx} {l : Launch} {post0 : Option Value → Hp → Prop} (C : Cx ΛC x l RX4 cX4_readInto rm_f4_readInto (some .int) 6 post0) {K : Int32 × Hp → Prop} (x2 : Int32) (x3 : Int32) (x4 : Int32) (h : Hp) (hR : ∀ (v : Int32) (h : Hp), K (v, h) → post0 (some (.int v)) h) (T : Tt (f4_readInto_52 x2 x3 x4 h) K) : G ΛC x 52 [(0, .ref 4), (2, .int x2), (3, .int x3), (4, .int x4)] [] h :=
  lp_ind (f := fun z : Int32 × Hp => f4_readInto_52_s x2 x3 z.1 z.2) (P := fun z : Int32 × Hp => G ΛC x 52 [(0, .ref 4), (2, .int x2), (3, .int x3), (4, .int z.1)] [] z.2) (K := K) (fun z T => k_f4_readInto_52_s C (K := KS (fun z : Int32 × Hp => G ΛC x 52 [(0, .ref 4), (2, .int x2), (3, .int x3), (4, .int z.1)] [] z.2) K) x2 x3 z.1 z.2 hR (fun _ _ q => q) T) (x4, h) T
noncomputable def f4_readInto (x1 : Nat) (x2 : Int32) (h : Hp) : Option (Int32 × Hp) :=
  lt (wR h 4 2 (some x1)) fun h1 => lt (wI h1 4 3 0) fun h2 => (h2.2.2 4 2).bind fun p3 => gd (decide (kdC p3 = 5)) <| lt (wI h2 4 4 (h2.1 p3 5)) fun h5 => lt (wI h5 4 5 0) fun h6 => lt (wI h6 4 6 0) fun h7 => lt (wI h7 4 7 1) fun h8 => lt (wI h8 4 8 1) fun h9 => (h9.2.2 4 2).bind fun p10 => gd (decide (kdC p10 = 5)) <| lt (h9.1 p10 5) fun v12 => f4_readInto_52 x2 v12 0 h9
set_option maxRecDepth 100000 in
set_option maxHeartbeats 4000000 in
theorem k_f4_readInto {x : Mx} {l : Launch} {post0 : Option Value → Hp → Prop} (C : Cx ΛC x l RX4 cX4_readInto rm_f4_readInto (some .int) 6 post0) {K : Int32 × Hp → Prop} (x1 : Nat) (x2 : Int32) (kx1 : kdC x1 = 5) (h : Hp) (hR : ∀ (v : Int32) (h : Hp), K (v, h) → post0 (some (.int v)) h) (T : Tt (f4_readInto x1 x2 h) K) : G ΛC x 0 [(0, .ref 4), (1, .ref x1), (2, .int x2)] [] h := by
  refine g_aload_n (q := 0) C dX4_readInto_0 rfl rfl ?_
  refine g_aload_n (q := 1) C dX4_readInto_1 rfl rfl ?_
  obtain ⟨h1, eh1, T⟩ := tt_lt T
  refine g_putR (k := 2) C dX4_readInto_2 (hpC rfl rfl) rfl fp_X4_19 rfl eh1 ?_
  refine g_aload_n (q := 0) C dX4_readInto_5 rfl rfl ?_
  refine g_iconst (v := 0) C dX4_readInto_6 (by decide) ?_
  obtain ⟨h2, eh2, T⟩ := tt_lt T
  refine g_putI (k := 3) C dX4_readInto_7 (hpC rfl rfl) rfl fp_X4_23 rfl eh2 ?_
  refine g_aload_n (q := 0) C dX4_readInto_10 rfl rfl ?_
  refine g_aload_n (q := 0) C dX4_readInto_11 rfl rfl ?_
  obtain ⟨p3, ep3, T⟩ := tt_bind T
  obtain ⟨g4, T⟩ := tt_gd T
  have kp3 : kdC p3 = 5 := of_decide_eq_true g4
  refine g_getD (k := 2) (q := p3) C dX4_readInto_12 (hpC rfl rfl) rfl fl_X4_19 rfl ep3 ?_
  refine g_getI (k := 5) C dX4_readInto_15 (hpC kp3 rfl) kp3 fl_X4_27 rfl ?_
  obtain ⟨h5, eh5, T⟩ := tt_lt T
  refine g_putI (k := 4) C dX4_readInto_18 (hpC rfl rfl) rfl fp_X4_32 rfl eh5 ?_
  refine g_aload_n (q := 0) C dX4_readInto_21 rfl rfl ?_
  refine g_iconst (v := 0) C dX4_readInto_22 (by decide) ?_
  obtain ⟨h6, eh6, T⟩ := tt_lt T
  refine g_putI (k := 5) C dX4_readInto_23 (hpC rfl rfl) rfl fp_X4_33 rfl eh6 ?_
  refine g_aload_n (q := 0) C dX4_readInto_26 rfl rfl ?_
  refine g_iconst (v := 0) C dX4_readInto_27 (by decide) ?_
  obtain ⟨h7, eh7, T⟩ := tt_lt T
  refine g_putI (k := 6) C dX4_readInto_28 (hpC rfl rfl) rfl fp_X4_36 rfl eh7 ?_
  refine g_aload_n (q := 0) C dX4_readInto_31 rfl rfl ?_
  refine g_iconst (v := 1) C dX4_readInto_32 (by decide) ?_
  obtain ⟨h8, eh8, T⟩ := tt_lt T
  refine g_putZ (k := 7) C dX4_readInto_33 (hpC rfl rfl) rfl fp_X4_39 rfl (Or.inr rfl) eh8 ?_
  refine g_aload_n (q := 0) C dX4_readInto_36 rfl rfl ?_
  refine g_iconst (v := 1) C dX4_readInto_37 (by decide) ?_
  obtain ⟨h9, eh9, T⟩ := tt_lt T
  refine g_putZ (k := 8) C dX4_readInto_38 (hpC rfl rfl) rfl fp_X4_43 rfl (Or.inr rfl) eh9 ?_
  refine g_aload_n (q := 0) C dX4_readInto_41 rfl rfl ?_
  obtain ⟨p10, ep10, T⟩ := tt_bind T
  obtain ⟨g11, T⟩ := tt_gd T
  have kp10 : kdC p10 = 5 := of_decide_eq_true g11
  refine g_getD (k := 2) (q := p10) C dX4_readInto_42 (hpC rfl rfl) rfl fl_X4_19 rfl ep10 ?_
  refine g_getI (k := 5) C dX4_readInto_45 (hpC kp10 rfl) kp10 fl_X4_27 rfl ?_
  obtain ⟨v12, ev12, T⟩ := tt_lt T
  refine g_nameI ev12 ?_
  refine g_istore_n (L' := [(3, .int v12), (0, .ref 4), (1, .ref x1), (2, .int x2)]) C dX4_readInto_48 rfl (by decide) rfl ?_
  refine g_iconst (v := 0) C dX4_readInto_49 (by decide) ?_
  refine g_istore (L' := [(4, .int 0), (3, .int v12), (0, .ref 4), (1, .ref x1), (2, .int x2)]) C dX4_readInto_50 (by decide) rfl ?_
  refine g_sub [2, 4, 1, 0] rfl ?_
  exact k_f4_readInto_52 C x2 v12 0 h9 hR T

theorem ok_f4_readInto {l : Launch} {K : Int32 × Hp → Prop} (x1 : Nat) (x2 : Int32) (kx1 : kdC x1 = 5) (h : Hp) (T : Tt (f4_readInto x1 x2 h) K) : Ok ΛC l yX4_readInto cX4_readInto 6 (some .int) rm_f4_readInto [.ref 4, .ref x1, .int x2] h (PIw K) :=
  Ok.of RX4 rfl (by decide) ⟨rfl, rfl⟩ (Nat.le_of_ble_eq_true rfl) (fun x C => k_f4_readInto C x1 x2 kx1 h (fun v _ q => ⟨v, rfl, q⟩) T)

abbrev rm_f7_readLaw : Room := { frames := 4, cells := 0, slots := 0, locals := 90 }
noncomputable def f7_readLaw_135 (x2 : Int32) (s0 : Int32) (h : Hp) : Option (Hp) :=
  (f7_check s0 x2 h).bind fun h17 => some (h17)
set_option maxRecDepth 100000 in
set_option maxHeartbeats 4000000 in
theorem k_f7_readLaw_135 {x : Mx} {l : Launch} {post0 : Option Value → Hp → Prop} (C : Cx ΛC x l RX7 cX7_readLaw rm_f7_readLaw none 3 post0) {K : Hp → Prop} (x2 : Int32) (s0 : Int32) (h : Hp) (hR : ∀ h : Hp, K h → post0 none h) (T : Tt (f7_readLaw_135 x2 s0 h) K) : G ΛC x 135 [(2, .int x2)] [.int s0, .ref 3] h := by
  refine g_iload_n (q := 0) C dX7_readLaw_135 rfl rfl ?_
  refine g_callV (p := 3) (As := [.int s0, .int x2]) C dX7_readLaw_136 ml_X7_92 yv_f7_check ⟨rfl, rfl⟩ ⟨Nat.le_of_ble_eq_true rfl, Nat.le_of_ble_eq_true rfl⟩ (hpC rfl rfl) rfl rfl rfl (Nat.le_of_ble_eq_true rfl) (ok_f7_check s0 x2 h (tt_bind T)) ?_
  rintro _ h17 ⟨rfl, T⟩
  show G ΛC x 139 [(2, .int x2)] [] h17
  exact g_vret C dX7_readLaw_139 (hR _ (tt_some T))

noncomputable def f7_readLaw_102 (x1 : Int32) (h : Hp) : Option (Hp) :=
  if h.1 3 3 = 0 then ((h.2.2 3 2).bind fun p12 => gd (decide (kdC p12 = 10)) <| (f4_readInto (p12 + 14) x1 h).bind fun (r14, h15) => if r14 = 0 then (f7_readLaw_135 r14 1 h15) else (f7_readLaw_135 r14 0 h15)) else (some (h))
set_option maxRecDepth 100000 in
set_option maxHeartbeats 4000000 in
theorem k_f7_readLaw_102 {x : Mx} {l : Launch} {post0 : Option Value → Hp → Prop} (C : Cx ΛC x l RX7 cX7_readLaw rm_f7_readLaw none 3 post0) {K : Hp → Prop} (x1 : Int32) (h : Hp) (hR : ∀ h : Hp, K h → post0 none h) (T : Tt (f7_readLaw_102 x1 h) K) : G ΛC x 102 [(0, .ref 3), (1, .int x1)] [] h := by
  refine g_aload_n (q := 0) C dX7_readLaw_102 rfl rfl ?_
  refine g_getI (k := 3) C dX7_readLaw_103 (hpC rfl rfl) rfl fl_X7_9 rfl ?_
  refine g_if_ne (tgt := 139) C dX7_readLaw_106 (by decide) (fun c11 => ?_) (fun c11 => ?_)
  · have T := tt_f T c11
    exact g_vret C dX7_readLaw_139 (hR _ (tt_some T))
  · have T := tt_t T c11
    refine g_aload_n (q := 0) C dX7_readLaw_109 rfl rfl ?_
    refine g_getF (k := 1) (q := 4) C dX7_readLaw_110 (hpC rfl rfl) rfl fl_X7_27 rfl rfl ?_
    refine g_aload_n (q := 0) C dX7_readLaw_113 rfl rfl ?_
    obtain ⟨p12, ep12, T⟩ := tt_bind T
    obtain ⟨g13, T⟩ := tt_gd T
    have kp12 : kdC p12 = 10 := of_decide_eq_true g13
    refine g_getD (k := 2) (q := p12) C dX7_readLaw_114 (hpC rfl rfl) rfl fl_X7_31 rfl ep12 ?_
    refine g_getF (k := 1) (q := p12 + 14) C dX7_readLaw_117 (hpC kp12 rfl) kp12 fl_X7_196 rfl rfl ?_
    refine g_iload_n (q := 1) C dX7_readLaw_120 rfl rfl ?_
    refine g_callV (p := 4) (As := [.ref (p12 + 14), .int x1]) C dX7_readLaw_121 ml_X7_205 yv_f4_readInto ⟨rfl, rfl⟩ ⟨Nat.le_of_ble_eq_true rfl, Nat.le_of_ble_eq_true rfl⟩ (hpC rfl rfl) rfl rfl rfl (Nat.le_of_ble_eq_true rfl) (ok_f4_readInto (p12 + 14) x1 (kf_10_1 kp12) h (tt_bind T)) ?_
    rintro _ h15 ⟨r14, rfl, T⟩
    show G ΛC x 124 [(0, .ref 3), (1, .int x1)] [.int r14] h15
    refine g_istore_n (L' := [(2, .int r14), (0, .ref 3), (1, .int x1)]) C dX7_readLaw_124 rfl (by decide) rfl ?_
    refine g_aload_n (q := 1) C dX7_readLaw_125 rfl rfl ?_
    refine g_iload_n (q := 0) C dX7_readLaw_126 rfl rfl ?_
    refine g_if_ne (tgt := 134) C dX7_readLaw_127 (by decide) (fun c16 => ?_) (fun c16 => ?_)
    · have T := tt_f T c16
      refine g_iconst (v := 0) C dX7_readLaw_134 (by decide) ?_
      refine g_sub [0] rfl ?_
      exact k_f7_readLaw_135 C r14 0 h15 hR T
    · have T := tt_t T c16
      refine g_iconst (v := 1) C dX7_readLaw_130 (by decide) ?_
      refine g_goto (tgt := 135) C dX7_readLaw_131 (by decide) ?_
      refine g_sub [0] rfl ?_
      exact k_f7_readLaw_135 C r14 1 h15 hR T

noncomputable def f7_readLaw_94 (x1 : Int32) (s0 : Int32) (h : Hp) : Option (Hp) :=
  (f7_check s0 3 h).bind fun h22 => (f7_step h22).bind fun h23 => f7_readLaw_102 x1 h23
set_option maxRecDepth 100000 in
set_option maxHeartbeats 4000000 in
theorem k_f7_readLaw_94 {x : Mx} {l : Launch} {post0 : Option Value → Hp → Prop} (C : Cx ΛC x l RX7 cX7_readLaw rm_f7_readLaw none 3 post0) {K : Hp → Prop} (x1 : Int32) (s0 : Int32) (h : Hp) (hR : ∀ h : Hp, K h → post0 none h) (T : Tt (f7_readLaw_94 x1 s0 h) K) : G ΛC x 94 [(0, .ref 3), (1, .int x1)] [.int s0, .ref 3] h := by
  refine g_iconst (v := 3) C dX7_readLaw_94 (by decide) ?_
  refine g_callV (p := 3) (As := [.int s0, .int 3]) C dX7_readLaw_95 ml_X7_92 yv_f7_check ⟨rfl, rfl⟩ ⟨Nat.le_of_ble_eq_true rfl, Nat.le_of_ble_eq_true rfl⟩ (hpC rfl rfl) rfl rfl rfl (Nat.le_of_ble_eq_true rfl) (ok_f7_check s0 3 h (tt_bind T)) ?_
  rintro _ h22 ⟨rfl, T⟩
  show G ΛC x 98 [(0, .ref 3), (1, .int x1)] [] h22
  refine g_aload_n (q := 0) C dX7_readLaw_98 rfl rfl ?_
  refine g_callV (p := 3) (As := []) C dX7_readLaw_99 ml_X7_96 yv_f7_step ⟨rfl, rfl⟩ ⟨Nat.le_of_ble_eq_true rfl, Nat.le_of_ble_eq_true rfl⟩ (hpC rfl rfl) rfl rfl rfl (Nat.le_of_ble_eq_true rfl) (ok_f7_step h22 (tt_bind T)) ?_
  rintro _ h23 ⟨rfl, T⟩
  show G ΛC x 102 [(0, .ref 3), (1, .int x1)] [] h23
  exact k_f7_readLaw_102 C x1 h23 hR T

noncomputable def f7_readLaw_65 (x1 : Int32) (s0 : Int32) (h : Hp) : Option (Hp) :=
  (f7_check s0 1 h).bind fun h9 => if x1 = (-1) then (f7_readLaw_102 x1 h9) else ((h9.2.2 3 2).bind fun p18 => gd (decide (kdC p18 = 10)) <| (f5_isTold (p18 + 14) x1 h9).bind fun r20 => if r20 = 0 then (f7_readLaw_94 x1 1 h9) else (f7_readLaw_94 x1 0 h9))
set_option maxRecDepth 100000 in
set_option maxHeartbeats 4000000 in
theorem k_f7_readLaw_65 {x : Mx} {l : Launch} {post0 : Option Value → Hp → Prop} (C : Cx ΛC x l RX7 cX7_readLaw rm_f7_readLaw none 3 post0) {K : Hp → Prop} (x1 : Int32) (s0 : Int32) (h : Hp) (hR : ∀ h : Hp, K h → post0 none h) (T : Tt (f7_readLaw_65 x1 s0 h) K) : G ΛC x 65 [(0, .ref 3), (1, .int x1)] [.int s0, .ref 3] h := by
  refine g_iconst (v := 1) C dX7_readLaw_65 (by decide) ?_
  refine g_callV (p := 3) (As := [.int s0, .int 1]) C dX7_readLaw_66 ml_X7_92 yv_f7_check ⟨rfl, rfl⟩ ⟨Nat.le_of_ble_eq_true rfl, Nat.le_of_ble_eq_true rfl⟩ (hpC rfl rfl) rfl rfl rfl (Nat.le_of_ble_eq_true rfl) (ok_f7_check s0 1 h (tt_bind T)) ?_
  rintro _ h9 ⟨rfl, T⟩
  show G ΛC x 69 [(0, .ref 3), (1, .int x1)] [] h9
  refine g_iload_n (q := 1) C dX7_readLaw_69 rfl rfl ?_
  refine g_iconst (v := (-1)) C dX7_readLaw_70 (by decide) ?_
  refine g_icmp_eq (tgt := 102) C dX7_readLaw_71 (by decide) (fun c10 => ?_) (fun c10 => ?_)
  · have T := tt_t T c10
    exact k_f7_readLaw_102 C x1 h9 hR T
  · have T := tt_f T c10
    refine g_aload_n (q := 0) C dX7_readLaw_74 rfl rfl ?_
    refine g_aload_n (q := 0) C dX7_readLaw_75 rfl rfl ?_
    obtain ⟨p18, ep18, T⟩ := tt_bind T
    obtain ⟨g19, T⟩ := tt_gd T
    have kp18 : kdC p18 = 10 := of_decide_eq_true g19
    refine g_getD (k := 2) (q := p18) C dX7_readLaw_76 (hpC rfl rfl) rfl fl_X7_31 rfl ep18 ?_
    refine g_getF (k := 1) (q := p18 + 14) C dX7_readLaw_79 (hpC kp18 rfl) kp18 fl_X7_196 rfl rfl ?_
    refine g_iload_n (q := 1) C dX7_readLaw_82 rfl rfl ?_
    refine g_callV (p := (p18 + 14)) (As := [.int x1]) C dX7_readLaw_83 ml_X7_200 yv_f5_isTold ⟨rfl, rfl⟩ ⟨Nat.le_of_ble_eq_true rfl, Nat.le_of_ble_eq_true rfl⟩ (hpC (kf_10_1 kp18) rfl) (kf_10_1 kp18) rfl rfl (Nat.le_of_ble_eq_true rfl) (ok_f5_isTold (p18 + 14) x1 (kf_10_1 kp18) h9 (tt_bind T)) ?_
    rintro _ _ ⟨r20, rfl, rfl, T⟩
    show G ΛC x 86 [(0, .ref 3), (1, .int x1)] [.int r20, .ref 3] h9
    refine g_if_ne (tgt := 93) C dX7_readLaw_86 (by decide) (fun c21 => ?_) (fun c21 => ?_)
    · have T := tt_f T c21
      refine g_iconst (v := 0) C dX7_readLaw_93 (by decide) ?_
      exact k_f7_readLaw_94 C x1 0 h9 hR T
    · have T := tt_t T c21
      refine g_iconst (v := 1) C dX7_readLaw_89 (by decide) ?_
      refine g_goto (tgt := 94) C dX7_readLaw_90 (by decide) ?_
      exact k_f7_readLaw_94 C x1 1 h9 hR T

noncomputable def f7_readLaw_53 (s0 : Int32) (h : Hp) : Option (Hp) :=
  if s0 = (-1) then (f7_readLaw_65 s0 0 h) else (f7_readLaw_65 s0 1 h)
set_option maxRecDepth 100000 in
set_option maxHeartbeats 4000000 in
theorem k_f7_readLaw_53 {x : Mx} {l : Launch} {post0 : Option Value → Hp → Prop} (C : Cx ΛC x l RX7 cX7_readLaw rm_f7_readLaw none 3 post0) {K : Hp → Prop} (s0 : Int32) (h : Hp) (hR : ∀ h : Hp, K h → post0 none h) (T : Tt (f7_readLaw_53 s0 h) K) : G ΛC x 53 [(0, .ref 3)] [.int s0] h := by
  refine g_istore_n (L' := [(1, .int s0), (0, .ref 3)]) C dX7_readLaw_53 rfl (by decide) rfl ?_
  refine g_aload_n (q := 1) C dX7_readLaw_54 rfl rfl ?_
  refine g_iload_n (q := 0) C dX7_readLaw_55 rfl rfl ?_
  refine g_iconst (v := (-1)) C dX7_readLaw_56 (by decide) ?_
  refine g_icmp_eq (tgt := 64) C dX7_readLaw_57 (by decide) (fun c8 => ?_) (fun c8 => ?_)
  · have T := tt_t T c8
    refine g_iconst (v := 0) C dX7_readLaw_64 (by decide) ?_
    refine g_sub [1, 0] rfl ?_
    exact k_f7_readLaw_65 C s0 0 h hR T
  · have T := tt_f T c8
    refine g_iconst (v := 1) C dX7_readLaw_60 (by decide) ?_
    refine g_goto (tgt := 65) C dX7_readLaw_61 (by decide) ?_
    refine g_sub [1, 0] rfl ?_
    exact k_f7_readLaw_65 C s0 1 h hR T

noncomputable def f7_readLaw (h : Hp) : Option (Hp) :=
  (f7_step h).bind fun h1 => (f8_isWord 777046016 h1).bind fun r2 => if r2 = 0 then ((f8_isWord 653969408 h1).bind fun r4 => if r4 = 0 then ((f8_isWord 109103520 h1).bind fun r6 => if r6 = 0 then (f7_readLaw_53 (-1) h1) else (f7_readLaw_53 2 h1)) else (f7_readLaw_53 1 h1)) else (f7_readLaw_53 0 h1)
set_option maxRecDepth 100000 in
set_option maxHeartbeats 4000000 in
theorem k_f7_readLaw {x : Mx} {l : Launch} {post0 : Option Value → Hp → Prop} (C : Cx ΛC x l RX7 cX7_readLaw rm_f7_readLaw none 3 post0) {K : Hp → Prop} (h : Hp) (hR : ∀ h : Hp, K h → post0 none h) (T : Tt (f7_readLaw h) K) : G ΛC x 0 [(0, .ref 3)] [] h := by
  refine g_aload_n (q := 0) C dX7_readLaw_0 rfl rfl ?_
  refine g_callV (p := 3) (As := []) C dX7_readLaw_1 ml_X7_96 yv_f7_step ⟨rfl, rfl⟩ ⟨Nat.le_of_ble_eq_true rfl, Nat.le_of_ble_eq_true rfl⟩ (hpC rfl rfl) rfl rfl rfl (Nat.le_of_ble_eq_true rfl) (ok_f7_step h (tt_bind T)) ?_
  rintro _ h1 ⟨rfl, T⟩
  show G ΛC x 4 [(0, .ref 3)] [] h1
  refine g_aload_n (q := 0) C dX7_readLaw_4 rfl rfl ?_
  refine g_getA (k := 0) (q := 1) C dX7_readLaw_5 (hpC rfl rfl) rfl fl_X7_18 rfl rfl ?_
  refine g_ldc (v := 777046016) C dX7_readLaw_8 kc_X7_190 ?_
  refine g_callV (p := 1) (As := [.int 777046016]) C dX7_readLaw_10 ml_X7_191 yv_f8_isWord ⟨rfl, rfl⟩ ⟨Nat.le_of_ble_eq_true rfl, Nat.le_of_ble_eq_true rfl⟩ (hpC rfl rfl) rfl rfl rfl (Nat.le_of_ble_eq_true rfl) (ok_f8_isWord 777046016 h1 (tt_bind T)) ?_
  rintro _ _ ⟨r2, rfl, rfl, T⟩
  show G ΛC x 13 [(0, .ref 3)] [.int r2] h1
  refine g_if_eq (tgt := 20) C dX7_readLaw_13 (by decide) (fun c3 => ?_) (fun c3 => ?_)
  · have T := tt_t T c3
    refine g_aload_n (q := 0) C dX7_readLaw_20 rfl rfl ?_
    refine g_getA (k := 0) (q := 1) C dX7_readLaw_21 (hpC rfl rfl) rfl fl_X7_18 rfl rfl ?_
    refine g_ldc (v := 653969408) C dX7_readLaw_24 kc_X7_194 ?_
    refine g_callV (p := 1) (As := [.int 653969408]) C dX7_readLaw_26 ml_X7_191 yv_f8_isWord ⟨rfl, rfl⟩ ⟨Nat.le_of_ble_eq_true rfl, Nat.le_of_ble_eq_true rfl⟩ (hpC rfl rfl) rfl rfl rfl (Nat.le_of_ble_eq_true rfl) (ok_f8_isWord 653969408 h1 (tt_bind T)) ?_
    rintro _ _ ⟨r4, rfl, rfl, T⟩
    show G ΛC x 29 [(0, .ref 3)] [.int r4] h1
    refine g_if_eq (tgt := 36) C dX7_readLaw_29 (by decide) (fun c5 => ?_) (fun c5 => ?_)
    · have T := tt_t T c5
      refine g_aload_n (q := 0) C dX7_readLaw_36 rfl rfl ?_
      refine g_getA (k := 0) (q := 1) C dX7_readLaw_37 (hpC rfl rfl) rfl fl_X7_18 rfl rfl ?_
      refine g_ldc (v := 109103520) C dX7_readLaw_40 kc_X7_195 ?_
      refine g_callV (p := 1) (As := [.int 109103520]) C dX7_readLaw_42 ml_X7_191 yv_f8_isWord ⟨rfl, rfl⟩ ⟨Nat.le_of_ble_eq_true rfl, Nat.le_of_ble_eq_true rfl⟩ (hpC rfl rfl) rfl rfl rfl (Nat.le_of_ble_eq_true rfl) (ok_f8_isWord 109103520 h1 (tt_bind T)) ?_
      rintro _ _ ⟨r6, rfl, rfl, T⟩
      show G ΛC x 45 [(0, .ref 3)] [.int r6] h1
      refine g_if_eq (tgt := 52) C dX7_readLaw_45 (by decide) (fun c7 => ?_) (fun c7 => ?_)
      · have T := tt_t T c7
        refine g_iconst (v := (-1)) C dX7_readLaw_52 (by decide) ?_
        exact k_f7_readLaw_53 C (-1) h1 hR T
      · have T := tt_f T c7
        refine g_iconst (v := 2) C dX7_readLaw_48 (by decide) ?_
        refine g_goto (tgt := 53) C dX7_readLaw_49 (by decide) ?_
        exact k_f7_readLaw_53 C 2 h1 hR T
    · have T := tt_f T c5
      refine g_iconst (v := 1) C dX7_readLaw_32 (by decide) ?_
      refine g_goto (tgt := 53) C dX7_readLaw_33 (by decide) ?_
      exact k_f7_readLaw_53 C 1 h1 hR T
  · have T := tt_f T c3
    refine g_iconst (v := 0) C dX7_readLaw_16 (by decide) ?_
    refine g_goto (tgt := 53) C dX7_readLaw_17 (by decide) ?_
    exact k_f7_readLaw_53 C 0 h1 hR T

theorem ok_f7_readLaw {l : Launch} {K : Hp → Prop} (h : Hp) (T : Tt (f7_readLaw h) K) : Ok ΛC l yX7_readLaw cX7_readLaw 3 none rm_f7_readLaw [.ref 3] h (PVw K) :=
  Ok.of RX7 rfl (by decide) ⟨rfl, rfl⟩ (Nat.le_of_ble_eq_true rfl) (fun x C => k_f7_readLaw C h (fun _ q => ⟨rfl, q⟩) T)

abbrev rm_f7_readLine : Room := { frames := 5, cells := 0, slots := 0, locals := 112 }
noncomputable def f7_readLine_142 (h : Hp) : Option (Hp) :=
  (f8_isSign 23 h).bind fun r4 => (f7_check r4 1 h).bind fun h5 => (f7_step h5).bind fun h6 => some (h6)
set_option maxRecDepth 100000 in
set_option maxHeartbeats 4000000 in
theorem k_f7_readLine_142 {x : Mx} {l : Launch} {post0 : Option Value → Hp → Prop} (C : Cx ΛC x l RX7 cX7_readLine rm_f7_readLine none 1 post0) {K : Hp → Prop} (h : Hp) (hR : ∀ h : Hp, K h → post0 none h) (T : Tt (f7_readLine_142 h) K) : G ΛC x 142 [(0, .ref 3)] [] h := by
  refine g_aload_n (q := 0) C dX7_readLine_142 rfl rfl ?_
  refine g_aload_n (q := 0) C dX7_readLine_143 rfl rfl ?_
  refine g_getA (k := 0) (q := 1) C dX7_readLine_144 (hpC rfl rfl) rfl fl_X7_18 rfl rfl ?_
  refine g_bipush (v := 23) C dX7_readLine_147 (by decide) ?_
  refine g_callV (p := 1) (As := [.int 23]) C dX7_readLine_149 ml_X7_88 yv_f8_isSign ⟨rfl, rfl⟩ ⟨Nat.le_of_ble_eq_true rfl, Nat.le_of_ble_eq_true rfl⟩ (hpC rfl rfl) rfl rfl rfl (Nat.le_of_ble_eq_true rfl) (ok_f8_isSign 23 h (tt_bind T)) ?_
  rintro _ _ ⟨r4, rfl, rfl, T⟩
  show G ΛC x 152 [(0, .ref 3)] [.int r4, .ref 3] h
  refine g_iconst (v := 1) C dX7_readLine_152 (by decide) ?_
  refine g_callV (p := 3) (As := [.int r4, .int 1]) C dX7_readLine_153 ml_X7_92 yv_f7_check ⟨rfl, rfl⟩ ⟨Nat.le_of_ble_eq_true rfl, Nat.le_of_ble_eq_true rfl⟩ (hpC rfl rfl) rfl rfl rfl (Nat.le_of_ble_eq_true rfl) (ok_f7_check r4 1 h (tt_bind T)) ?_
  rintro _ h5 ⟨rfl, T⟩
  show G ΛC x 156 [(0, .ref 3)] [] h5
  refine g_aload_n (q := 0) C dX7_readLine_156 rfl rfl ?_
  refine g_callV (p := 3) (As := []) C dX7_readLine_157 ml_X7_96 yv_f7_step ⟨rfl, rfl⟩ ⟨Nat.le_of_ble_eq_true rfl, Nat.le_of_ble_eq_true rfl⟩ (hpC rfl rfl) rfl rfl rfl (Nat.le_of_ble_eq_true rfl) (ok_f7_step h5 (tt_bind T)) ?_
  rintro _ h6 ⟨rfl, T⟩
  show G ΛC x 160 [(0, .ref 3)] [] h6
  exact g_vret C dX7_readLine_160 (hR _ (tt_some T))

noncomputable def f7_readLine_22 (s0 : Int32) (h : Hp) : Option (Hp) :=
  if s0 = 83623936 then ((f7_readBox h).bind fun h3 => f7_readLine_142 h3) else if s0 = 135708672 then ((f7_readDamp h).bind fun h8 => f7_readLine_142 h8) else if s0 = 257085056 then ((f7_readGuest h).bind fun h10 => f7_readLine_142 h10) else if s0 = 378994688 then ((f7_readKin h).bind fun h12 => f7_readLine_142 h12) else if s0 = 404455424 then ((f7_readLaw h).bind fun h14 => f7_readLine_142 h14) else if s0 = 642945024 then ((f7_readSeed h).bind fun h16 => f7_readLine_142 h16) else if s0 = 687329536 then ((f7_readTooth h).bind fun h18 => f7_readLine_142 h18) else ((f7_fail 1 h).bind fun h19 => f7_readLine_142 h19)
set_option maxRecDepth 100000 in
set_option maxHeartbeats 4000000 in
theorem k_f7_readLine_22 {x : Mx} {l : Launch} {post0 : Option Value → Hp → Prop} (C : Cx ΛC x l RX7 cX7_readLine rm_f7_readLine none 1 post0) {K : Hp → Prop} (s0 : Int32) (h : Hp) (hR : ∀ h : Hp, K h → post0 none h) (T : Tt (f7_readLine_22 s0 h) K) : G ΛC x 22 [(0, .ref 3)] [.int s0] h := by
  by_cases c2 : s0 = 83623936
  · have T := tt_t T c2
    refine g_lookup (tgt := 88) (off := 66) C dX7_readLine_22 (by decide) (by rw [c2]; first | done | decide) (by decide) ?_
    refine g_aload_n (q := 0) C dX7_readLine_88 rfl rfl ?_
    refine g_callV (p := 3) (As := []) C dX7_readLine_89 ml_X7_67 yv_f7_readBox ⟨rfl, rfl⟩ ⟨Nat.le_of_ble_eq_true rfl, Nat.le_of_ble_eq_true rfl⟩ (hpC rfl rfl) rfl rfl rfl (Nat.le_of_ble_eq_true rfl) (ok_f7_readBox h (tt_bind T)) ?_
    rintro _ h3 ⟨rfl, T⟩
    show G ΛC x 92 [(0, .ref 3)] [] h3
    refine g_goto (tgt := 142) C dX7_readLine_92 (by decide) ?_
    exact k_f7_readLine_142 C h3 hR T
  · have T := tt_f T c2
    by_cases c7 : s0 = 135708672
    · have T := tt_t T c7
      refine g_lookup (tgt := 116) (off := 94) C dX7_readLine_22 (by decide) (by rw [c7]; first | done | decide) (by decide) ?_
      refine g_aload_n (q := 0) C dX7_readLine_116 rfl rfl ?_
      refine g_callV (p := 3) (As := []) C dX7_readLine_117 ml_X7_79 yv_f7_readDamp ⟨rfl, rfl⟩ ⟨Nat.le_of_ble_eq_true rfl, Nat.le_of_ble_eq_true rfl⟩ (hpC rfl rfl) rfl rfl rfl (Nat.le_of_ble_eq_true rfl) (ok_f7_readDamp h (tt_bind T)) ?_
      rintro _ h8 ⟨rfl, T⟩
      show G ΛC x 120 [(0, .ref 3)] [] h8
      refine g_goto (tgt := 142) C dX7_readLine_120 (by decide) ?_
      exact k_f7_readLine_142 C h8 hR T
    · have T := tt_f T c7
      by_cases c9 : s0 = 257085056
      · have T := tt_t T c9
        refine g_lookup (tgt := 109) (off := 87) C dX7_readLine_22 (by decide) (by rw [c9]; first | done | decide) (by decide) ?_
        refine g_aload_n (q := 0) C dX7_readLine_109 rfl rfl ?_
        refine g_callV (p := 3) (As := []) C dX7_readLine_110 ml_X7_76 yv_f7_readGuest ⟨rfl, rfl⟩ ⟨Nat.le_of_ble_eq_true rfl, Nat.le_of_ble_eq_true rfl⟩ (hpC rfl rfl) rfl rfl rfl (Nat.le_of_ble_eq_true rfl) (ok_f7_readGuest h (tt_bind T)) ?_
        rintro _ h10 ⟨rfl, T⟩
        show G ΛC x 113 [(0, .ref 3)] [] h10
        refine g_goto (tgt := 142) C dX7_readLine_113 (by decide) ?_
        exact k_f7_readLine_142 C h10 hR T
      · have T := tt_f T c9
        by_cases c11 : s0 = 378994688
        · have T := tt_t T c11
          refine g_lookup (tgt := 102) (off := 80) C dX7_readLine_22 (by decide) (by rw [c11]; first | done | decide) (by decide) ?_
          refine g_aload_n (q := 0) C dX7_readLine_102 rfl rfl ?_
          refine g_callV (p := 3) (As := []) C dX7_readLine_103 ml_X7_73 yv_f7_readKin ⟨rfl, rfl⟩ ⟨Nat.le_of_ble_eq_true rfl, Nat.le_of_ble_eq_true rfl⟩ (hpC rfl rfl) rfl rfl rfl (Nat.le_of_ble_eq_true rfl) (ok_f7_readKin h (tt_bind T)) ?_
          rintro _ h12 ⟨rfl, T⟩
          show G ΛC x 106 [(0, .ref 3)] [] h12
          refine g_goto (tgt := 142) C dX7_readLine_106 (by decide) ?_
          exact k_f7_readLine_142 C h12 hR T
        · have T := tt_f T c11
          by_cases c13 : s0 = 404455424
          · have T := tt_t T c13
            refine g_lookup (tgt := 130) (off := 108) C dX7_readLine_22 (by decide) (by rw [c13]; first | done | decide) (by decide) ?_
            refine g_aload_n (q := 0) C dX7_readLine_130 rfl rfl ?_
            refine g_callV (p := 3) (As := []) C dX7_readLine_131 ml_X7_85 yv_f7_readLaw ⟨rfl, rfl⟩ ⟨Nat.le_of_ble_eq_true rfl, Nat.le_of_ble_eq_true rfl⟩ (hpC rfl rfl) rfl rfl rfl (Nat.le_of_ble_eq_true rfl) (ok_f7_readLaw h (tt_bind T)) ?_
            rintro _ h14 ⟨rfl, T⟩
            show G ΛC x 134 [(0, .ref 3)] [] h14
            refine g_goto (tgt := 142) C dX7_readLine_134 (by decide) ?_
            exact k_f7_readLine_142 C h14 hR T
          · have T := tt_f T c13
            by_cases c15 : s0 = 642945024
            · have T := tt_t T c15
              refine g_lookup (tgt := 123) (off := 101) C dX7_readLine_22 (by decide) (by rw [c15]; first | done | decide) (by decide) ?_
              refine g_aload_n (q := 0) C dX7_readLine_123 rfl rfl ?_
              refine g_callV (p := 3) (As := []) C dX7_readLine_124 ml_X7_82 yv_f7_readSeed ⟨rfl, rfl⟩ ⟨Nat.le_of_ble_eq_true rfl, Nat.le_of_ble_eq_true rfl⟩ (hpC rfl rfl) rfl rfl rfl (Nat.le_of_ble_eq_true rfl) (ok_f7_readSeed h (tt_bind T)) ?_
              rintro _ h16 ⟨rfl, T⟩
              show G ΛC x 127 [(0, .ref 3)] [] h16
              refine g_goto (tgt := 142) C dX7_readLine_127 (by decide) ?_
              exact k_f7_readLine_142 C h16 hR T
            · have T := tt_f T c15
              by_cases c17 : s0 = 687329536
              · have T := tt_t T c17
                refine g_lookup (tgt := 95) (off := 73) C dX7_readLine_22 (by decide) (by rw [c17]; first | done | decide) (by decide) ?_
                refine g_aload_n (q := 0) C dX7_readLine_95 rfl rfl ?_
                refine g_callV (p := 3) (As := []) C dX7_readLine_96 ml_X7_70 yv_f7_readTooth ⟨rfl, rfl⟩ ⟨Nat.le_of_ble_eq_true rfl, Nat.le_of_ble_eq_true rfl⟩ (hpC rfl rfl) rfl rfl rfl (Nat.le_of_ble_eq_true rfl) (ok_f7_readTooth h (tt_bind T)) ?_
                rintro _ h18 ⟨rfl, T⟩
                show G ΛC x 99 [(0, .ref 3)] [] h18
                refine g_goto (tgt := 142) C dX7_readLine_99 (by decide) ?_
                exact k_f7_readLine_142 C h18 hR T
              · have T := tt_f T c17
                refine g_lookup (tgt := 137) C dX7_readLine_22 (by decide) (by show Op.lookupswitch.offset [(83623936, 66), (135708672, 94), (257085056, 87), (378994688, 80), (404455424, 108), (642945024, 101), (687329536, 73)] 115 _ = _; rw [Op.lookupswitch.offset_cons, if_neg (lk_ne c2 (by decide)), Op.lookupswitch.offset_cons, if_neg (lk_ne c7 (by decide)), Op.lookupswitch.offset_cons, if_neg (lk_ne c9 (by decide)), Op.lookupswitch.offset_cons, if_neg (lk_ne c11 (by decide)), Op.lookupswitch.offset_cons, if_neg (lk_ne c13 (by decide)), Op.lookupswitch.offset_cons, if_neg (lk_ne c15 (by decide)), Op.lookupswitch.offset_cons, if_neg (lk_ne c17 (by decide)), Op.lookupswitch.offset_nil]) (by decide) ?_
                refine g_aload_n (q := 0) C dX7_readLine_137 rfl rfl ?_
                refine g_iconst (v := 1) C dX7_readLine_138 (by decide) ?_
                refine g_callV (p := 3) (As := [.int 1]) C dX7_readLine_139 ml_X7_58 yv_f7_fail ⟨rfl, rfl⟩ ⟨Nat.le_of_ble_eq_true rfl, Nat.le_of_ble_eq_true rfl⟩ (hpC rfl rfl) rfl rfl rfl (Nat.le_of_ble_eq_true rfl) (ok_f7_fail 1 h (tt_bind T)) ?_
                rintro _ h19 ⟨rfl, T⟩
                show G ΛC x 142 [(0, .ref 3)] [] h19
                exact k_f7_readLine_142 C h19 hR T

noncomputable def f7_readLine (h : Hp) : Option (Hp) :=
  if h.1 1 5 = 1 then (f7_readLine_22 (h.1 1 6) h) else (f7_readLine_22 0 h)
set_option maxRecDepth 100000 in
set_option maxHeartbeats 4000000 in
theorem k_f7_readLine {x : Mx} {l : Launch} {post0 : Option Value → Hp → Prop} (C : Cx ΛC x l RX7 cX7_readLine rm_f7_readLine none 1 post0) {K : Hp → Prop} (h : Hp) (hR : ∀ h : Hp, K h → post0 none h) (T : Tt (f7_readLine h) K) : G ΛC x 0 [(0, .ref 3)] [] h := by
  refine g_aload_n (q := 0) C dX7_readLine_0 rfl rfl ?_
  refine g_getA (k := 0) (q := 1) C dX7_readLine_1 (hpC rfl rfl) rfl fl_X7_18 rfl rfl ?_
  refine g_getI (k := 5) C dX7_readLine_4 (hpC rfl rfl) rfl fl_X7_46 rfl ?_
  refine g_iconst (v := 1) C dX7_readLine_7 (by decide) ?_
  refine g_icmp_ne (tgt := 21) C dX7_readLine_8 (by decide) (fun c1 => ?_) (fun c1 => ?_)
  · have T := tt_f T c1
    refine g_iconst (v := 0) C dX7_readLine_21 (by decide) ?_
    exact k_f7_readLine_22 C 0 h hR T
  · have T := tt_t T c1
    refine g_aload_n (q := 0) C dX7_readLine_11 rfl rfl ?_
    refine g_getA (k := 0) (q := 1) C dX7_readLine_12 (hpC rfl rfl) rfl fl_X7_18 rfl rfl ?_
    refine g_getI (k := 6) C dX7_readLine_15 (hpC rfl rfl) rfl fl_X7_64 rfl ?_
    refine g_goto (tgt := 22) C dX7_readLine_18 (by decide) ?_
    exact k_f7_readLine_22 C (h.1 1 6) h hR T

theorem ok_f7_readLine {l : Launch} {K : Hp → Prop} (h : Hp) (T : Tt (f7_readLine h) K) : Ok ΛC l yX7_readLine cX7_readLine 1 none rm_f7_readLine [.ref 3] h (PVw K) :=
  Ok.of RX7 rfl (by decide) ⟨rfl, rfl⟩ (Nat.le_of_ble_eq_true rfl) (fun x C => k_f7_readLine C h (fun _ q => ⟨rfl, q⟩) T)

abbrev rm_f7_readAll : Room := { frames := 6, cells := 0, slots := 0, locals := 132 }
noncomputable def f7_readAll_80 (x3 : Int32) (h : Hp) : Option ((Int32 × Hp) ⊕ (Hp)) :=
  some (.inl (x3 + 1, h))
set_option maxRecDepth 100000 in
set_option maxHeartbeats 4000000 in
theorem k_f7_readAll_80 {x : Mx} {l : Launch} {post0 : Option Value → Hp → Prop} (C : Cx ΛC x l RX7 cX7_readAll rm_f7_readAll none 4 post0) {K : (Int32 × Hp) ⊕ (Hp) → Prop} (x3 : Int32) (h : Hp) (hR : ∀ h : Hp, K (.inr h) → post0 none h) (hL32 : ∀ (x3 : Int32) (h : Hp), K (.inl (x3, h)) → G ΛC x 32 [(0, .ref 3), (3, .int x3)] [] h) (T : Tt (f7_readAll_80 x3 h) K) : G ΛC x 80 [(0, .ref 3), (3, .int x3)] [] h := by
  refine g_iinc (v := x3 + 1) (q := 1) (L' := [(3, .int (x3 + 1)), (0, .ref 3)]) C dX7_readAll_80 rfl (by first | rfl | exact congrArg _ (by decide)) (by decide) rfl ?_
  refine g_goto (tgt := 32) C dX7_readAll_83 (by decide) ?_
  refine g_sub [1, 0] rfl ?_
  exact hL32 _ _ (tt_some T)

noncomputable def f7_readAll_32_s (x3 : Int32) (h : Hp) : Option ((Int32 × Hp) ⊕ (Hp)) :=
  if 700 ≤ x3 then (some (.inr (h))) else (if h.1 3 3 = 0 then (if h.1 1 5 = 0 then (some (.inr (h))) else ((f7_readLine h).bind fun h11 => if h11.1 3 3 = 0 then ((h11.2.2 3 2).bind fun p13 => gd (decide (kdC p13 = 10)) <| lt (wI h11 p13 11 ((h11.1 p13 11) + 1)) fun h15 => f7_readAll_80 x3 h15) else (f7_readAll_80 x3 h11))) else (some (.inr (h))))
set_option maxRecDepth 100000 in
set_option maxHeartbeats 4000000 in
theorem k_f7_readAll_32_s {x : Mx} {l : Launch} {post0 : Option Value → Hp → Prop} (C : Cx ΛC x l RX7 cX7_readAll rm_f7_readAll none 4 post0) {K : (Int32 × Hp) ⊕ (Hp) → Prop} (x3 : Int32) (h : Hp) (hR : ∀ h : Hp, K (.inr h) → post0 none h) (hL32 : ∀ (x3 : Int32) (h : Hp), K (.inl (x3, h)) → G ΛC x 32 [(0, .ref 3), (3, .int x3)] [] h) (T : Tt (f7_readAll_32_s x3 h) K) : G ΛC x 32 [(0, .ref 3), (3, .int x3)] [] h := by
  refine g_iload_n (q := 1) C dX7_readAll_32 rfl rfl ?_
  refine g_sipush (v := 700) C dX7_readAll_33 (by decide) ?_
  refine g_icmp_ge (tgt := 86) C dX7_readAll_36 (by decide) (fun c8 => ?_) (fun c8 => ?_)
  · have T := tt_t T c8
    exact g_vret C dX7_readAll_86 (hR _ (tt_some T))
  · have T := tt_f T c8
    refine g_aload_n (q := 0) C dX7_readAll_39 rfl rfl ?_
    refine g_getI (k := 3) C dX7_readAll_40 (hpC rfl rfl) rfl fl_X7_9 rfl ?_
    refine g_if_ne (tgt := 86) C dX7_readAll_43 (by decide) (fun c9 => ?_) (fun c9 => ?_)
    · have T := tt_f T c9
      exact g_vret C dX7_readAll_86 (hR _ (tt_some T))
    · have T := tt_t T c9
      refine g_aload_n (q := 0) C dX7_readAll_46 rfl rfl ?_
      refine g_getA (k := 0) (q := 1) C dX7_readAll_47 (hpC rfl rfl) rfl fl_X7_18 rfl rfl ?_
      refine g_getI (k := 5) C dX7_readAll_50 (hpC rfl rfl) rfl fl_X7_46 rfl ?_
      refine g_if_eq (tgt := 86) C dX7_readAll_53 (by decide) (fun c10 => ?_) (fun c10 => ?_)
      · have T := tt_t T c10
        exact g_vret C dX7_readAll_86 (hR _ (tt_some T))
      · have T := tt_f T c10
        refine g_aload_n (q := 0) C dX7_readAll_56 rfl rfl ?_
        refine g_callV (p := 3) (As := []) C dX7_readAll_57 ml_X7_49 yv_f7_readLine ⟨rfl, rfl⟩ ⟨Nat.le_of_ble_eq_true rfl, Nat.le_of_ble_eq_true rfl⟩ (hpC rfl rfl) rfl rfl rfl (Nat.le_of_ble_eq_true rfl) (ok_f7_readLine h (tt_bind T)) ?_
        rintro _ h11 ⟨rfl, T⟩
        show G ΛC x 60 [(0, .ref 3), (3, .int x3)] [] h11
        refine g_aload_n (q := 0) C dX7_readAll_60 rfl rfl ?_
        refine g_getI (k := 3) C dX7_readAll_61 (hpC rfl rfl) rfl fl_X7_9 rfl ?_
        refine g_if_ne (tgt := 80) C dX7_readAll_64 (by decide) (fun c12 => ?_) (fun c12 => ?_)
        · have T := tt_f T c12
          exact k_f7_readAll_80 C x3 h11 hR hL32 T
        · have T := tt_t T c12
          refine g_aload_n (q := 0) C dX7_readAll_67 rfl rfl ?_
          obtain ⟨p13, ep13, T⟩ := tt_bind T
          obtain ⟨g14, T⟩ := tt_gd T
          have kp13 : kdC p13 = 10 := of_decide_eq_true g14
          refine g_getD (k := 2) (q := p13) C dX7_readAll_68 (hpC rfl rfl) rfl fl_X7_31 rfl ep13 ?_
          refine g_dup C dX7_readAll_71 rfl ?_
          refine g_getI (k := 11) C dX7_readAll_72 (hpC kp13 rfl) kp13 fl_X7_52 rfl ?_
          refine g_iconst (v := 1) C dX7_readAll_75 (by decide) ?_
          refine g_iadd C dX7_readAll_76 ?_
          obtain ⟨h15, eh15, T⟩ := tt_lt T
          refine g_putI (k := 11) C dX7_readAll_77 (hpC kp13 rfl) kp13 fp_X7_52 rfl eh15 ?_
          exact k_f7_readAll_80 C x3 h15 hR hL32 T

noncomputable def f7_readAll_32 (x3 : Int32) (h : Hp) : Option (Hp) := lp (fun z : Int32 × Hp => f7_readAll_32_s z.1 z.2) (x3, h)
theorem k_f7_readAll_32 {x : Mx} {l : Launch} {post0 : Option Value → Hp → Prop} (C : Cx ΛC x l RX7 cX7_readAll rm_f7_readAll none 4 post0) {K : Hp → Prop} (x3 : Int32) (h : Hp) (hR : ∀ h : Hp, K h → post0 none h) (T : Tt (f7_readAll_32 x3 h) K) : G ΛC x 32 [(0, .ref 3), (3, .int x3)] [] h :=
  lp_ind (f := fun z : Int32 × Hp => f7_readAll_32_s z.1 z.2) (P := fun z : Int32 × Hp => G ΛC x 32 [(0, .ref 3), (3, .int z.1)] [] z.2) (K := K) (fun z T => k_f7_readAll_32_s C (K := KS (fun z : Int32 × Hp => G ΛC x 32 [(0, .ref 3), (3, .int z.1)] [] z.2) K) z.1 z.2 hR (fun _ _ q => q) T) (x3, h) T
noncomputable def f7_readAll (x1 : Nat) (x2 : Int32) (h : Hp) : Option (Hp) :=
  lt (wR h 3 2 (some x1)) fun h1 => (h1.2.2 3 2).bind fun p2 => gd (decide (kdC p2 = 10)) <| (f10_clear p2 h1).bind fun h4 => lt (wI h4 3 3 0) fun h5 => lt (wI h5 3 4 (-1)) fun h6 => (f8_begin x2 h6).bind fun h7 => f7_readAll_32 0 h7
set_option maxRecDepth 100000 in
set_option maxHeartbeats 4000000 in
theorem k_f7_readAll {x : Mx} {l : Launch} {post0 : Option Value → Hp → Prop} (C : Cx ΛC x l RX7 cX7_readAll rm_f7_readAll none 4 post0) {K : Hp → Prop} (x1 : Nat) (x2 : Int32) (kx1 : kdC x1 = 10) (h : Hp) (hR : ∀ h : Hp, K h → post0 none h) (T : Tt (f7_readAll x1 x2 h) K) : G ΛC x 0 [(0, .ref 3), (1, .ref x1), (2, .int x2)] [] h := by
  refine g_aload_n (q := 0) C dX7_readAll_0 rfl rfl ?_
  refine g_aload_n (q := 1) C dX7_readAll_1 rfl rfl ?_
  obtain ⟨h1, eh1, T⟩ := tt_lt T
  refine g_putR (k := 2) C dX7_readAll_2 (hpC rfl rfl) rfl fp_X7_31 rfl eh1 ?_
  refine g_aload_n (q := 0) C dX7_readAll_5 rfl rfl ?_
  obtain ⟨p2, ep2, T⟩ := tt_bind T
  obtain ⟨g3, T⟩ := tt_gd T
  have kp2 : kdC p2 = 10 := of_decide_eq_true g3
  refine g_getD (k := 2) (q := p2) C dX7_readAll_6 (hpC rfl rfl) rfl fl_X7_31 rfl ep2 ?_
  refine g_callV (p := p2) (As := []) C dX7_readAll_9 ml_X7_35 yv_f10_clear ⟨rfl, rfl⟩ ⟨Nat.le_of_ble_eq_true rfl, Nat.le_of_ble_eq_true rfl⟩ (hpC kp2 rfl) kp2 rfl rfl (Nat.le_of_ble_eq_true rfl) (ok_f10_clear p2 kp2 h1 (tt_bind T)) ?_
  rintro _ h4 ⟨rfl, T⟩
  show G ΛC x 12 [(0, .ref 3), (1, .ref x1), (2, .int x2)] [] h4
  refine g_aload_n (q := 0) C dX7_readAll_12 rfl rfl ?_
  refine g_iconst (v := 0) C dX7_readAll_13 (by decide) ?_
  obtain ⟨h5, eh5, T⟩ := tt_lt T
  refine g_putI (k := 3) C dX7_readAll_14 (hpC rfl rfl) rfl fp_X7_9 rfl eh5 ?_
  refine g_aload_n (q := 0) C dX7_readAll_17 rfl rfl ?_
  refine g_iconst (v := (-1)) C dX7_readAll_18 (by decide) ?_
  obtain ⟨h6, eh6, T⟩ := tt_lt T
  refine g_putI (k := 4) C dX7_readAll_19 (hpC rfl rfl) rfl fp_X7_15 rfl eh6 ?_
  refine g_aload_n (q := 0) C dX7_readAll_22 rfl rfl ?_
  refine g_getA (k := 0) (q := 1) C dX7_readAll_23 (hpC rfl rfl) rfl fl_X7_18 rfl rfl ?_
  refine g_iload_n (q := 2) C dX7_readAll_26 rfl rfl ?_
  refine g_callV (p := 1) (As := [.int x2]) C dX7_readAll_27 ml_X7_40 yv_f8_begin ⟨rfl, rfl⟩ ⟨Nat.le_of_ble_eq_true rfl, Nat.le_of_ble_eq_true rfl⟩ (hpC rfl rfl) rfl rfl rfl (Nat.le_of_ble_eq_true rfl) (ok_f8_begin x2 h6 (tt_bind T)) ?_
  rintro _ h7 ⟨rfl, T⟩
  show G ΛC x 30 [(0, .ref 3), (1, .ref x1), (2, .int x2)] [] h7
  refine g_iconst (v := 0) C dX7_readAll_30 (by decide) ?_
  refine g_istore_n (L' := [(3, .int 0), (0, .ref 3), (1, .ref x1), (2, .int x2)]) C dX7_readAll_31 rfl (by decide) rfl ?_
  refine g_sub [1, 0] rfl ?_
  exact k_f7_readAll_32 C 0 h7 hR T

theorem ok_f7_readAll {l : Launch} {K : Hp → Prop} (x1 : Nat) (x2 : Int32) (kx1 : kdC x1 = 10) (h : Hp) (T : Tt (f7_readAll x1 x2 h) K) : Ok ΛC l yX7_readAll cX7_readAll 4 none rm_f7_readAll [.ref 3, .ref x1, .int x2] h (PVw K) :=
  Ok.of RX7 rfl (by decide) ⟨rfl, rfl⟩ (Nat.le_of_ble_eq_true rfl) (fun x C => k_f7_readAll C x1 x2 kx1 h (fun _ q => ⟨rfl, q⟩) T)

abbrev rm_f0_copyOf : Room := { frames := 1, cells := 0, slots := 0, locals := 18 }
noncomputable def f0_copyOf (x0 : Nat) (x1 : Nat) (h : Hp) : Option (Hp) :=
  lt (wC h (x1 + 1) (x0 + 1) (ix 0) (ix 0) (ix 8)) fun h1 => lt (wI h1 x0 1 (h1.1 x1 1)) fun h2 => lt (wI h2 x0 2 (h2.1 x1 2)) fun h3 => lt (wI h3 x0 3 (h3.1 x1 3)) fun h4 => lt (wI h4 x0 4 (h4.1 x1 4)) fun h5 => lt (wI h5 x0 5 (h5.1 x1 5)) fun h6 => lt (wI h6 x0 6 (h6.1 x1 6)) fun h7 => lt (wI h7 x0 7 (h7.1 x1 7)) fun h8 => lt (wI h8 x0 8 (h8.1 x1 8)) fun h9 => lt (wI h9 x0 9 (h9.1 x1 9)) fun h10 => gd (bz (h10.1 x1 10)) <| lt (wI h10 x0 10 (h10.1 x1 10)) fun h12 => some (h12)
set_option maxRecDepth 100000 in
set_option maxHeartbeats 4000000 in
theorem k_f0_copyOf {x : Mx} {l : Launch} {post0 : Option Value → Hp → Prop} (C : Cx ΛC x l RX0 cX0_copyOf rm_f0_copyOf none 2 post0) {K : Hp → Prop} (x0 : Nat) (x1 : Nat) (kx0 : kdC x0 = 0) (kx1 : kdC x1 = 0) (h : Hp) (hR : ∀ h : Hp, K h → post0 none h) (T : Tt (f0_copyOf x0 x1 h) K) : G ΛC x 0 [(0, .ref x0), (1, .ref x1)] [] h := by
  refine g_aload_n (q := 1) C dX0_copyOf_0 rfl rfl ?_
  refine g_getF (k := 0) (q := x1 + 1) C dX0_copyOf_1 (hpC kx1 rfl) kx1 fl_X0_9 rfl rfl ?_
  refine g_iconst (v := 0) C dX0_copyOf_4 (by decide) ?_
  refine g_aload_n (q := 0) C dX0_copyOf_5 rfl rfl ?_
  refine g_getF (k := 0) (q := x0 + 1) C dX0_copyOf_6 (hpC kx0 rfl) kx0 fl_X0_9 rfl rfl ?_
  refine g_iconst (v := 0) C dX0_copyOf_9 (by decide) ?_
  refine g_bipush (v := 8) C dX0_copyOf_10 (by decide) ?_
  obtain ⟨h1, eh1, T⟩ := tt_lt T
  refine g_copy C dX0_copyOf_12 mm_X0_15 mn_copy ms_copy mi_sys (hpC (kf_0_0 kx1) rfl) (kf_0_0 kx1) (hpC (kf_0_0 kx0) rfl) (kf_0_0 kx0) (by decide) (by decide) (by decide) (by rw [show ΛC.2.1 _ = _ from (lf_0_0 kx1)]; decide) (by rw [show ΛC.2.1 _ = _ from (lf_0_0 kx0)]; decide) (Nat.le_of_ble_eq_true rfl) (Nat.le_of_ble_eq_true rfl) eh1 ?_
  refine g_aload_n (q := 0) C dX0_copyOf_15 rfl rfl ?_
  refine g_aload_n (q := 1) C dX0_copyOf_16 rfl rfl ?_
  refine g_getI (k := 1) C dX0_copyOf_17 (hpC kx1 rfl) kx1 fl_X0_21 rfl ?_
  obtain ⟨h2, eh2, T⟩ := tt_lt T
  refine g_putI (k := 1) C dX0_copyOf_20 (hpC kx0 rfl) kx0 fp_X0_21 rfl eh2 ?_
  refine g_aload_n (q := 0) C dX0_copyOf_23 rfl rfl ?_
  refine g_aload_n (q := 1) C dX0_copyOf_24 rfl rfl ?_
  refine g_getI (k := 2) C dX0_copyOf_25 (hpC kx1 rfl) kx1 fl_X0_25 rfl ?_
  obtain ⟨h3, eh3, T⟩ := tt_lt T
  refine g_putI (k := 2) C dX0_copyOf_28 (hpC kx0 rfl) kx0 fp_X0_25 rfl eh3 ?_
  refine g_aload_n (q := 0) C dX0_copyOf_31 rfl rfl ?_
  refine g_aload_n (q := 1) C dX0_copyOf_32 rfl rfl ?_
  refine g_getI (k := 3) C dX0_copyOf_33 (hpC kx1 rfl) kx1 fl_X0_28 rfl ?_
  obtain ⟨h4, eh4, T⟩ := tt_lt T
  refine g_putI (k := 3) C dX0_copyOf_36 (hpC kx0 rfl) kx0 fp_X0_28 rfl eh4 ?_
  refine g_aload_n (q := 0) C dX0_copyOf_39 rfl rfl ?_
  refine g_aload_n (q := 1) C dX0_copyOf_40 rfl rfl ?_
  refine g_getI (k := 4) C dX0_copyOf_41 (hpC kx1 rfl) kx1 fl_X0_31 rfl ?_
  obtain ⟨h5, eh5, T⟩ := tt_lt T
  refine g_putI (k := 4) C dX0_copyOf_44 (hpC kx0 rfl) kx0 fp_X0_31 rfl eh5 ?_
  refine g_aload_n (q := 0) C dX0_copyOf_47 rfl rfl ?_
  refine g_aload_n (q := 1) C dX0_copyOf_48 rfl rfl ?_
  refine g_getI (k := 5) C dX0_copyOf_49 (hpC kx1 rfl) kx1 fl_X0_34 rfl ?_
  obtain ⟨h6, eh6, T⟩ := tt_lt T
  refine g_putI (k := 5) C dX0_copyOf_52 (hpC kx0 rfl) kx0 fp_X0_34 rfl eh6 ?_
  refine g_aload_n (q := 0) C dX0_copyOf_55 rfl rfl ?_
  refine g_aload_n (q := 1) C dX0_copyOf_56 rfl rfl ?_
  refine g_getI (k := 6) C dX0_copyOf_57 (hpC kx1 rfl) kx1 fl_X0_37 rfl ?_
  obtain ⟨h7, eh7, T⟩ := tt_lt T
  refine g_putI (k := 6) C dX0_copyOf_60 (hpC kx0 rfl) kx0 fp_X0_37 rfl eh7 ?_
  refine g_aload_n (q := 0) C dX0_copyOf_63 rfl rfl ?_
  refine g_aload_n (q := 1) C dX0_copyOf_64 rfl rfl ?_
  refine g_getI (k := 7) C dX0_copyOf_65 (hpC kx1 rfl) kx1 fl_X0_40 rfl ?_
  obtain ⟨h8, eh8, T⟩ := tt_lt T
  refine g_putI (k := 7) C dX0_copyOf_68 (hpC kx0 rfl) kx0 fp_X0_40 rfl eh8 ?_
  refine g_aload_n (q := 0) C dX0_copyOf_71 rfl rfl ?_
  refine g_aload_n (q := 1) C dX0_copyOf_72 rfl rfl ?_
  refine g_getI (k := 8) C dX0_copyOf_73 (hpC kx1 rfl) kx1 fl_X0_43 rfl ?_
  obtain ⟨h9, eh9, T⟩ := tt_lt T
  refine g_putI (k := 8) C dX0_copyOf_76 (hpC kx0 rfl) kx0 fp_X0_43 rfl eh9 ?_
  refine g_aload_n (q := 0) C dX0_copyOf_79 rfl rfl ?_
  refine g_aload_n (q := 1) C dX0_copyOf_80 rfl rfl ?_
  refine g_getI (k := 9) C dX0_copyOf_81 (hpC kx1 rfl) kx1 fl_X0_46 rfl ?_
  obtain ⟨h10, eh10, T⟩ := tt_lt T
  refine g_putI (k := 9) C dX0_copyOf_84 (hpC kx0 rfl) kx0 fp_X0_46 rfl eh10 ?_
  refine g_aload_n (q := 0) C dX0_copyOf_87 rfl rfl ?_
  refine g_aload_n (q := 1) C dX0_copyOf_88 rfl rfl ?_
  refine g_getI (k := 10) C dX0_copyOf_89 (hpC kx1 rfl) kx1 fl_X0_49 rfl ?_
  obtain ⟨g11, T⟩ := tt_gd T
  obtain ⟨h12, eh12, T⟩ := tt_lt T
  refine g_putZ (k := 10) C dX0_copyOf_92 (hpC kx0 rfl) kx0 fp_X0_49 rfl (bz_or g11) eh12 ?_
  exact g_vret C dX0_copyOf_95 (hR _ (tt_some T))

theorem ok_f0_copyOf {l : Launch} {K : Hp → Prop} (x0 : Nat) (x1 : Nat) (kx0 : kdC x0 = 0) (kx1 : kdC x1 = 0) (h : Hp) (T : Tt (f0_copyOf x0 x1 h) K) : Ok ΛC l yX0_copyOf cX0_copyOf 2 none rm_f0_copyOf [.ref x0, .ref x1] h (PVw K) :=
  Ok.of RX0 rfl (by decide) ⟨rfl, rfl⟩ (Nat.le_of_ble_eq_true rfl) (fun x C => k_f0_copyOf C x0 x1 kx0 kx1 h (fun _ q => ⟨rfl, q⟩) T)

abbrev rm_f9_setOut : Room := { frames := 2, cells := 0, slots := 0, locals := 39 }
noncomputable def f9_setOut_39 (x0 : Nat) (x1 : Nat) (h : Hp) : Option (Hp) :=
  lt (wI h x0 2 0) fun h3 => lt (wI h3 x0 3 (h3.1 x1 10)) fun h4 => lt (wI h4 x0 4 0) fun h5 => some (h5)
set_option maxRecDepth 100000 in
set_option maxHeartbeats 4000000 in
theorem k_f9_setOut_39 {x : Mx} {l : Launch} {post0 : Option Value → Hp → Prop} (C : Cx ΛC x l RX9 cX9_setOut rm_f9_setOut none 3 post0) {K : Hp → Prop} (x0 : Nat) (x1 : Nat) (kx0 : kdC x0 = 9) (kx1 : kdC x1 = 10) (h : Hp) (hR : ∀ h : Hp, K h → post0 none h) (T : Tt (f9_setOut_39 x0 x1 h) K) : G ΛC x 39 [(0, .ref x0), (1, .ref x1)] [] h := by
  refine g_aload_n (q := 0) C dX9_setOut_39 rfl rfl ?_
  refine g_iconst (v := 0) C dX9_setOut_40 (by decide) ?_
  obtain ⟨h3, eh3, T⟩ := tt_lt T
  refine g_putI (k := 2) C dX9_setOut_41 (hpC kx0 rfl) kx0 fp_X9_30 rfl eh3 ?_
  refine g_aload_n (q := 0) C dX9_setOut_44 rfl rfl ?_
  refine g_aload_n (q := 1) C dX9_setOut_45 rfl rfl ?_
  refine g_getI (k := 10) C dX9_setOut_46 (hpC kx1 rfl) kx1 fl_X9_33 rfl ?_
  obtain ⟨h4, eh4, T⟩ := tt_lt T
  refine g_putI (k := 3) C dX9_setOut_49 (hpC kx0 rfl) kx0 fp_X9_36 rfl eh4 ?_
  refine g_aload_n (q := 0) C dX9_setOut_52 rfl rfl ?_
  refine g_iconst (v := 0) C dX9_setOut_53 (by decide) ?_
  obtain ⟨h5, eh5, T⟩ := tt_lt T
  refine g_putI (k := 4) C dX9_setOut_54 (hpC kx0 rfl) kx0 fp_X9_39 rfl eh5 ?_
  exact g_vret C dX9_setOut_57 (hR _ (tt_some T))

noncomputable def f9_setOut_10_s (x0 : Nat) (x1 : Nat) (x2 : Int32) (h : Hp) : Option ((Int32 × Hp) ⊕ (Hp)) :=
  if h.1 x0 1 ≤ x2 then ((f9_setOut_39 x0 x1 h).map (fun z => .inr (z))) else (gd (inb x2 6) <| gd (inb x2 6) <| (f0_copyOf (x0 + 1 + 1 + 2 * ix x2) (x1 + 1 + 1 + 2 * ix x2) h).bind fun h8 => some (.inl (x2 + 1, h8)))
set_option maxRecDepth 100000 in
set_option maxHeartbeats 4000000 in
theorem k_f9_setOut_10_s {x : Mx} {l : Launch} {post0 : Option Value → Hp → Prop} (C : Cx ΛC x l RX9 cX9_setOut rm_f9_setOut none 3 post0) {K : (Int32 × Hp) ⊕ (Hp) → Prop} (x0 : Nat) (x1 : Nat) (x2 : Int32) (kx0 : kdC x0 = 9) (kx1 : kdC x1 = 10) (h : Hp) (hR : ∀ h : Hp, K (.inr h) → post0 none h) (hL10 : ∀ (x2 : Int32) (h : Hp), K (.inl (x2, h)) → G ΛC x 10 [(0, .ref x0), (1, .ref x1), (2, .int x2)] [] h) (T : Tt (f9_setOut_10_s x0 x1 x2 h) K) : G ΛC x 10 [(0, .ref x0), (1, .ref x1), (2, .int x2)] [] h := by
  refine g_iload_n (q := 2) C dX9_setOut_10 rfl rfl ?_
  refine g_aload_n (q := 0) C dX9_setOut_11 rfl rfl ?_
  refine g_getI (k := 1) C dX9_setOut_12 (hpC kx0 rfl) kx0 fl_X9_24 rfl ?_
  refine g_icmp_ge (tgt := 39) C dX9_setOut_15 (by decide) (fun c2 => ?_) (fun c2 => ?_)
  · have T := tt_t T c2
    refine g_sub [0, 1] rfl ?_
    exact k_f9_setOut_39 C x0 x1 kx0 kx1 h hR (tt_map T)
  · have T := tt_f T c2
    refine g_aload_n (q := 0) C dX9_setOut_18 rfl rfl ?_
    refine g_getF (k := 0) (q := x0 + 1) C dX9_setOut_19 (hpC kx0 rfl) kx0 fl_X9_11 rfl rfl ?_
    refine g_iload_n (q := 2) C dX9_setOut_22 rfl rfl ?_
    obtain ⟨g6, T⟩ := tt_gd T
    refine g_aald (q := x0 + 1 + 1 + 2 * ix x2) C dX9_setOut_23 (hpC (kf_9_0 kx0) rfl) (kf_9_0 kx0) (inb_of (lf_9_0 kx0) g6) rfl ?_
    refine g_aload_n (q := 1) C dX9_setOut_24 rfl rfl ?_
    refine g_getF (k := 0) (q := x1 + 1) C dX9_setOut_25 (hpC kx1 rfl) kx1 fl_X9_25 rfl rfl ?_
    refine g_iload_n (q := 2) C dX9_setOut_28 rfl rfl ?_
    obtain ⟨g7, T⟩ := tt_gd T
    refine g_aald (q := x1 + 1 + 1 + 2 * ix x2) C dX9_setOut_29 (hpC (kf_10_0 kx1) rfl) (kf_10_0 kx1) (inb_of (lf_10_0 kx1) g7) rfl ?_
    refine g_callV (p := (x0 + 1 + 1 + 2 * ix x2)) (As := [.ref (x1 + 1 + 1 + 2 * ix x2)]) C dX9_setOut_30 ml_X9_26 yv_f0_copyOf ⟨rfl, rfl⟩ ⟨Nat.le_of_ble_eq_true rfl, Nat.le_of_ble_eq_true rfl⟩ (hpC (kboxC (kf_9_0 kx0) g6) rfl) (kboxC (kf_9_0 kx0) g6) rfl rfl (Nat.le_of_ble_eq_true rfl) (ok_f0_copyOf (x0 + 1 + 1 + 2 * ix x2) (x1 + 1 + 1 + 2 * ix x2) (kboxC (kf_9_0 kx0) g6) (kboxC (kf_10_0 kx1) g7) h (tt_bind T)) ?_
    rintro _ h8 ⟨rfl, T⟩
    show G ΛC x 33 [(0, .ref x0), (1, .ref x1), (2, .int x2)] [] h8
    refine g_iinc (v := x2 + 1) (q := 2) (L' := [(2, .int (x2 + 1)), (0, .ref x0), (1, .ref x1)]) C dX9_setOut_33 rfl (by first | rfl | exact congrArg _ (by decide)) (by decide) rfl ?_
    refine g_goto (tgt := 10) C dX9_setOut_36 (by decide) ?_
    refine g_sub [1, 2, 0] rfl ?_
    exact hL10 _ _ (tt_some T)

noncomputable def f9_setOut_10 (x0 : Nat) (x1 : Nat) (x2 : Int32) (h : Hp) : Option (Hp) := lp (fun z : Int32 × Hp => f9_setOut_10_s x0 x1 z.1 z.2) (x2, h)
theorem k_f9_setOut_10 {x : Mx} {l : Launch} {post0 : Option Value → Hp → Prop} (C : Cx ΛC x l RX9 cX9_setOut rm_f9_setOut none 3 post0) {K : Hp → Prop} (x0 : Nat) (x1 : Nat) (x2 : Int32) (kx0 : kdC x0 = 9) (kx1 : kdC x1 = 10) (h : Hp) (hR : ∀ h : Hp, K h → post0 none h) (T : Tt (f9_setOut_10 x0 x1 x2 h) K) : G ΛC x 10 [(0, .ref x0), (1, .ref x1), (2, .int x2)] [] h :=
  lp_ind (f := fun z : Int32 × Hp => f9_setOut_10_s x0 x1 z.1 z.2) (P := fun z : Int32 × Hp => G ΛC x 10 [(0, .ref x0), (1, .ref x1), (2, .int z.1)] [] z.2) (K := K) (fun z T => k_f9_setOut_10_s C (K := KS (fun z : Int32 × Hp => G ΛC x 10 [(0, .ref x0), (1, .ref x1), (2, .int z.1)] [] z.2) K) x0 x1 z.1 kx0 kx1 z.2 hR (fun _ _ q => q) T) (x2, h) T
noncomputable def f9_setOut (x0 : Nat) (x1 : Nat) (h : Hp) : Option (Hp) :=
  lt (wI h x0 1 (h.1 x1 5)) fun h1 => f9_setOut_10 x0 x1 0 h1
set_option maxRecDepth 100000 in
set_option maxHeartbeats 4000000 in
theorem k_f9_setOut {x : Mx} {l : Launch} {post0 : Option Value → Hp → Prop} (C : Cx ΛC x l RX9 cX9_setOut rm_f9_setOut none 3 post0) {K : Hp → Prop} (x0 : Nat) (x1 : Nat) (kx0 : kdC x0 = 9) (kx1 : kdC x1 = 10) (h : Hp) (hR : ∀ h : Hp, K h → post0 none h) (T : Tt (f9_setOut x0 x1 h) K) : G ΛC x 0 [(0, .ref x0), (1, .ref x1)] [] h := by
  refine g_aload_n (q := 0) C dX9_setOut_0 rfl rfl ?_
  refine g_aload_n (q := 1) C dX9_setOut_1 rfl rfl ?_
  refine g_getI (k := 5) C dX9_setOut_2 (hpC kx1 rfl) kx1 fl_X9_18 rfl ?_
  obtain ⟨h1, eh1, T⟩ := tt_lt T
  refine g_putI (k := 1) C dX9_setOut_5 (hpC kx0 rfl) kx0 fp_X9_24 rfl eh1 ?_
  refine g_iconst (v := 0) C dX9_setOut_8 (by decide) ?_
  refine g_istore_n (L' := [(2, .int 0), (0, .ref x0), (1, .ref x1)]) C dX9_setOut_9 rfl (by decide) rfl ?_
  refine g_sub [1, 2, 0] rfl ?_
  exact k_f9_setOut_10 C x0 x1 0 kx0 kx1 h1 hR T

theorem ok_f9_setOut {l : Launch} {K : Hp → Prop} (x0 : Nat) (x1 : Nat) (kx0 : kdC x0 = 9) (kx1 : kdC x1 = 10) (h : Hp) (T : Tt (f9_setOut x0 x1 h) K) : Ok ΛC l yX9_setOut cX9_setOut 3 none rm_f9_setOut [.ref x0, .ref x1] h (PVw K) :=
  Ok.of RX9 rfl (by decide) ⟨rfl, rfl⟩ (Nat.le_of_ble_eq_true rfl) (fun x C => k_f9_setOut C x0 x1 kx0 kx1 h (fun _ q => ⟨rfl, q⟩) T)

abbrev rm_f3_clear : Room := { frames := 0, cells := 0, slots := 0, locals := 0 }
noncomputable def f3_clear (h : Hp) : Option (Hp) :=
  lt (wI h 39 5 0) fun h1 => lt (wI h1 39 6 (-1)) fun h2 => some (h2)
set_option maxRecDepth 100000 in
set_option maxHeartbeats 4000000 in
theorem k_f3_clear {x : Mx} {l : Launch} {post0 : Option Value → Hp → Prop} (C : Cx ΛC x l RX3 cX3_clear rm_f3_clear none 1 post0) {K : Hp → Prop} (h : Hp) (hR : ∀ h : Hp, K h → post0 none h) (T : Tt (f3_clear h) K) : G ΛC x 0 [(0, .ref 39)] [] h := by
  refine g_aload_n (q := 0) C dX3_clear_0 rfl rfl ?_
  refine g_iconst (v := 0) C dX3_clear_1 (by decide) ?_
  obtain ⟨h1, eh1, T⟩ := tt_lt T
  refine g_putI (k := 5) C dX3_clear_2 (hpC rfl rfl) rfl fp_X3_32 rfl eh1 ?_
  refine g_aload_n (q := 0) C dX3_clear_5 rfl rfl ?_
  refine g_iconst (v := (-1)) C dX3_clear_6 (by decide) ?_
  obtain ⟨h2, eh2, T⟩ := tt_lt T
  refine g_putI (k := 6) C dX3_clear_7 (hpC rfl rfl) rfl fp_X3_28 rfl eh2 ?_
  exact g_vret C dX3_clear_10 (hR _ (tt_some T))

theorem ok_f3_clear {l : Launch} {K : Hp → Prop} (h : Hp) (T : Tt (f3_clear h) K) : Ok ΛC l yX3_clear cX3_clear 1 none rm_f3_clear [.ref 39] h (PVw K) :=
  Ok.of RX3 rfl (by decide) ⟨rfl, rfl⟩ (Nat.le_of_ble_eq_true rfl) (fun x C => k_f3_clear C h (fun _ q => ⟨rfl, q⟩) T)

abbrev rm_f1_clear : Room := { frames := 0, cells := 0, slots := 0, locals := 0 }
noncomputable def f1_clear (h : Hp) : Option (Hp) :=
  lt (wI h 34 4 0) fun h1 => some (h1)
set_option maxRecDepth 100000 in
set_option maxHeartbeats 4000000 in
theorem k_f1_clear {x : Mx} {l : Launch} {post0 : Option Value → Hp → Prop} (C : Cx ΛC x l RX1 cX1_clear rm_f1_clear none 1 post0) {K : Hp → Prop} (h : Hp) (hR : ∀ h : Hp, K h → post0 none h) (T : Tt (f1_clear h) K) : G ΛC x 0 [(0, .ref 34)] [] h := by
  refine g_aload_n (q := 0) C dX1_clear_0 rfl rfl ?_
  refine g_iconst (v := 0) C dX1_clear_1 (by decide) ?_
  obtain ⟨h1, eh1, T⟩ := tt_lt T
  refine g_putI (k := 4) C dX1_clear_2 (hpC rfl rfl) rfl fp_X1_25 rfl eh1 ?_
  exact g_vret C dX1_clear_5 (hR _ (tt_some T))

theorem ok_f1_clear {l : Launch} {K : Hp → Prop} (h : Hp) (T : Tt (f1_clear h) K) : Ok ΛC l yX1_clear cX1_clear 1 none rm_f1_clear [.ref 34] h (PVw K) :=
  Ok.of RX1 rfl (by decide) ⟨rfl, rfl⟩ (Nat.le_of_ble_eq_true rfl) (fun x C => k_f1_clear C h (fun _ q => ⟨rfl, q⟩) T)

abbrev rm_f0_heardWith : Room := { frames := 1, cells := 0, slots := 0, locals := 21 }
noncomputable def f0_heardWith_19 (h : Hp) : Option (Int32) :=
  some 0
set_option maxRecDepth 100000 in
set_option maxHeartbeats 4000000 in
theorem k_f0_heardWith_19 {x : Mx} {l : Launch} {post0 : Option Value → Hp → Prop} (C : Cx ΛC x l RX0 cX0_heardWith rm_f0_heardWith (some .int) 4 post0) {K : Int32 → Prop} (h : Hp) (hR : ∀ v : Int32, K v → post0 (some (.int v)) h) (T : Tt (f0_heardWith_19 h) K) : G ΛC x 19 [] [] h := by
  refine g_iconst (v := 0) C dX0_heardWith_19 (by decide) ?_
  refine g_goto (tgt := 33) C dX0_heardWith_20 (by decide) ?_
  exact g_iret C dX0_heardWith_33 (hR _ (tt_some T))

noncomputable def f0_heardWith (x0 : Nat) (x1 : Int32) (x2 : Int32) (h : Hp) : Option (Int32) :=
  gd (inb x1 8) <| lt (h.1 (x0 + 1) (ix x1)) fun v2 => if v2 = 0 then (f0_heardWith_19 h) else ((f0_misses x0 v2 h).bind fun r4 => if r4 = 0 then (some (if v2 + (x2 / 5) < 9 then v2 + (x2 / 5) else 9 : Int32)) else (f0_heardWith_19 h))
set_option maxRecDepth 100000 in
set_option maxHeartbeats 4000000 in
theorem k_f0_heardWith {x : Mx} {l : Launch} {post0 : Option Value → Hp → Prop} (C : Cx ΛC x l RX0 cX0_heardWith rm_f0_heardWith (some .int) 4 post0) {K : Int32 → Prop} (x0 : Nat) (x1 : Int32) (x2 : Int32) (kx0 : kdC x0 = 0) (h : Hp) (hR : ∀ v : Int32, K v → post0 (some (.int v)) h) (T : Tt (f0_heardWith x0 x1 x2 h) K) : G ΛC x 0 [(0, .ref x0), (1, .int x1), (2, .int x2)] [] h := by
  refine g_aload_n (q := 0) C dX0_heardWith_0 rfl rfl ?_
  refine g_getF (k := 0) (q := x0 + 1) C dX0_heardWith_1 (hpC kx0 rfl) kx0 fl_X0_9 rfl rfl ?_
  refine g_iload_n (q := 1) C dX0_heardWith_4 rfl rfl ?_
  obtain ⟨g1, T⟩ := tt_gd T
  refine g_iald C dX0_heardWith_5 (hpC (kf_0_0 kx0) rfl) (kf_0_0 kx0) (inb_of (lf_0_0 kx0) g1) ?_
  obtain ⟨v2, ev2, T⟩ := tt_lt T
  refine g_nameI ev2 ?_
  refine g_istore_n (L' := [(3, .int v2), (0, .ref x0), (1, .int x1), (2, .int x2)]) C dX0_heardWith_6 rfl (by decide) rfl ?_
  refine g_iload_n (q := 0) C dX0_heardWith_7 rfl rfl ?_
  refine g_if_eq (tgt := 19) C dX0_heardWith_8 (by decide) (fun c3 => ?_) (fun c3 => ?_)
  · have T := tt_t T c3
    refine g_sub [] rfl ?_
    exact k_f0_heardWith_19 C h hR T
  · have T := tt_f T c3
    refine g_aload_n (q := 1) C dX0_heardWith_11 rfl rfl ?_
    refine g_iload_n (q := 0) C dX0_heardWith_12 rfl rfl ?_
    refine g_callV (p := x0) (As := [.int v2]) C dX0_heardWith_13 ml_X0_57 yv_f0_misses ⟨rfl, rfl⟩ ⟨Nat.le_of_ble_eq_true rfl, Nat.le_of_ble_eq_true rfl⟩ (hpC kx0 rfl) kx0 rfl rfl (Nat.le_of_ble_eq_true rfl) (ok_f0_misses x0 v2 kx0 h (tt_bind T)) ?_
    rintro _ _ ⟨r4, rfl, rfl, T⟩
    show G ΛC x 16 [(3, .int v2), (0, .ref x0), (1, .int x1), (2, .int x2)] [.int r4] h
    refine g_if_eq (tgt := 23) C dX0_heardWith_16 (by decide) (fun c5 => ?_) (fun c5 => ?_)
    · have T := tt_t T c5
      refine g_bipush (v := 9) C dX0_heardWith_23 (by decide) ?_
      refine g_iload_n (q := 0) C dX0_heardWith_25 rfl rfl ?_
      refine g_iload_n (q := 3) C dX0_heardWith_26 rfl rfl ?_
      refine g_iconst (v := 5) C dX0_heardWith_27 (by decide) ?_
      refine g_idiv C dX0_heardWith_28 (by decide) ?_
      refine g_iadd C dX0_heardWith_29 ?_
      refine g_mmin C dX0_heardWith_30 mm_X0_61 ms_min mi_math mc_min (Nat.le_of_ble_eq_true rfl) (Nat.le_of_ble_eq_true rfl) ?_
      exact g_iret C dX0_heardWith_33 (hR _ (tt_some T))
    · have T := tt_f T c5
      refine g_sub [] rfl ?_
      exact k_f0_heardWith_19 C h hR T

theorem ok_f0_heardWith {l : Launch} {K : Int32 → Prop} (x0 : Nat) (x1 : Int32) (x2 : Int32) (kx0 : kdC x0 = 0) (h : Hp) (T : Tt (f0_heardWith x0 x1 x2 h) K) : Ok ΛC l yX0_heardWith cX0_heardWith 4 (some .int) rm_f0_heardWith [.ref x0, .int x1, .int x2] h (PIs K h) :=
  Ok.of RX0 rfl (by decide) ⟨rfl, rfl⟩ (Nat.le_of_ble_eq_true rfl) (fun x C => k_f0_heardWith C x0 x1 x2 kx0 h (fun v q => ⟨v, rfl, rfl, q⟩) T)

abbrev rm_f0_heardNow : Room := { frames := 2, cells := 0, slots := 0, locals := 44 }
noncomputable def f0_heardNow (x0 : Nat) (x1 : Int32) (h : Hp) : Option (Int32) :=
  (f0_heardWith x0 x1 (h.1 x0 6) h).bind fun r1 => some r1
set_option maxRecDepth 100000 in
set_option maxHeartbeats 4000000 in
theorem k_f0_heardNow {x : Mx} {l : Launch} {post0 : Option Value → Hp → Prop} (C : Cx ΛC x l RX0 cX0_heardNow rm_f0_heardNow (some .int) 2 post0) {K : Int32 → Prop} (x0 : Nat) (x1 : Int32) (kx0 : kdC x0 = 0) (h : Hp) (hR : ∀ v : Int32, K v → post0 (some (.int v)) h) (T : Tt (f0_heardNow x0 x1 h) K) : G ΛC x 0 [(0, .ref x0), (1, .int x1)] [] h := by
  refine g_aload_n (q := 0) C dX0_heardNow_0 rfl rfl ?_
  refine g_iload_n (q := 1) C dX0_heardNow_1 rfl rfl ?_
  refine g_aload_n (q := 0) C dX0_heardNow_2 rfl rfl ?_
  refine g_getI (k := 6) C dX0_heardNow_3 (hpC kx0 rfl) kx0 fl_X0_37 rfl ?_
  refine g_callV (p := x0) (As := [.int x1, .int (h.1 x0 6)]) C dX0_heardNow_6 ml_X0_53 yv_f0_heardWith ⟨rfl, rfl⟩ ⟨Nat.le_of_ble_eq_true rfl, Nat.le_of_ble_eq_true rfl⟩ (hpC kx0 rfl) kx0 rfl rfl (Nat.le_of_ble_eq_true rfl) (ok_f0_heardWith x0 x1 (h.1 x0 6) kx0 h (tt_bind T)) ?_
  rintro _ _ ⟨r1, rfl, rfl, T⟩
  show G ΛC x 9 [(0, .ref x0), (1, .int x1)] [.int r1] h
  exact g_iret C dX0_heardNow_9 (hR _ (tt_some T))

theorem ok_f0_heardNow {l : Launch} {K : Int32 → Prop} (x0 : Nat) (x1 : Int32) (kx0 : kdC x0 = 0) (h : Hp) (T : Tt (f0_heardNow x0 x1 h) K) : Ok ΛC l yX0_heardNow cX0_heardNow 2 (some .int) rm_f0_heardNow [.ref x0, .int x1] h (PIs K h) :=
  Ok.of RX0 rfl (by decide) ⟨rfl, rfl⟩ (Nat.le_of_ble_eq_true rfl) (fun x C => k_f0_heardNow C x0 x1 kx0 h (fun v q => ⟨v, rfl, rfl, q⟩) T)

abbrev rm_fJ_bitCount_0f7a4 : Room := { frames := 0, cells := 0, slots := 0, locals := 0 }
noncomputable def fJ_bitCount_0f7a4 (x0 : Int32) : Option (Int32) :=
  lt (x0 - (((Int32.toUInt32 x0 >>> (Int32.toUInt32 1 &&& Int32.toUInt32 31)).toInt32) &&& 1431655765)) fun v1 => lt ((v1 &&& 858993459) + (((Int32.toUInt32 v1 >>> (Int32.toUInt32 2 &&& Int32.toUInt32 31)).toInt32) &&& 858993459)) fun v2 => lt ((v2 + ((Int32.toUInt32 v2 >>> (Int32.toUInt32 4 &&& Int32.toUInt32 31)).toInt32)) &&& 252645135) fun v3 => lt (v3 + ((Int32.toUInt32 v3 >>> (Int32.toUInt32 8 &&& Int32.toUInt32 31)).toInt32)) fun v4 => lt (v4 + ((Int32.toUInt32 v4 >>> (Int32.toUInt32 16 &&& Int32.toUInt32 31)).toInt32)) fun v5 => some (v5 &&& 63)
set_option maxRecDepth 100000 in
set_option maxHeartbeats 4000000 in
theorem k_fJ_bitCount_0f7a4 {x : Mx} {l : Launch} {post0 : Option Value → Hp → Prop} (C : Cx ΛC x l RJ6 cJ6_bitCount_0f7a4 rm_fJ_bitCount_0f7a4 (some .int) 1 post0) {K : Int32 → Prop} (x0 : Int32) (h : Hp) (hR : ∀ v : Int32, K v → post0 (some (.int v)) h) (T : Tt (fJ_bitCount_0f7a4 x0) K) : G ΛC x 0 [(0, .int x0)] [] h := by
  refine g_iload_n (q := 0) C dJ6_bitCount_0f7a4_0 rfl rfl ?_
  refine g_iload_n (q := 0) C dJ6_bitCount_0f7a4_1 rfl rfl ?_
  refine g_iconst (v := 1) C dJ6_bitCount_0f7a4_2 (by decide) ?_
  refine g_iushr C dJ6_bitCount_0f7a4_3 ?_
  refine g_ldcw (v := 1431655765) C dJ6_bitCount_0f7a4_4 kc_J6_265 ?_
  refine g_iand C dJ6_bitCount_0f7a4_7 ?_
  refine g_isub C dJ6_bitCount_0f7a4_8 ?_
  obtain ⟨v1, ev1, T⟩ := tt_lt T
  refine g_nameI ev1 ?_
  refine g_istore_n (L' := [(0, .int v1)]) C dJ6_bitCount_0f7a4_9 rfl (by decide) rfl ?_
  refine g_iload_n (q := 0) C dJ6_bitCount_0f7a4_10 rfl rfl ?_
  refine g_ldcw (v := 858993459) C dJ6_bitCount_0f7a4_11 kc_J6_266 ?_
  refine g_iand C dJ6_bitCount_0f7a4_14 ?_
  refine g_iload_n (q := 0) C dJ6_bitCount_0f7a4_15 rfl rfl ?_
  refine g_iconst (v := 2) C dJ6_bitCount_0f7a4_16 (by decide) ?_
  refine g_iushr C dJ6_bitCount_0f7a4_17 ?_
  refine g_ldcw (v := 858993459) C dJ6_bitCount_0f7a4_18 kc_J6_266 ?_
  refine g_iand C dJ6_bitCount_0f7a4_21 ?_
  refine g_iadd C dJ6_bitCount_0f7a4_22 ?_
  obtain ⟨v2, ev2, T⟩ := tt_lt T
  refine g_nameI ev2 ?_
  refine g_istore_n (L' := [(0, .int v2)]) C dJ6_bitCount_0f7a4_23 rfl (by decide) rfl ?_
  refine g_iload_n (q := 0) C dJ6_bitCount_0f7a4_24 rfl rfl ?_
  refine g_iload_n (q := 0) C dJ6_bitCount_0f7a4_25 rfl rfl ?_
  refine g_iconst (v := 4) C dJ6_bitCount_0f7a4_26 (by decide) ?_
  refine g_iushr C dJ6_bitCount_0f7a4_27 ?_
  refine g_iadd C dJ6_bitCount_0f7a4_28 ?_
  refine g_ldcw (v := 252645135) C dJ6_bitCount_0f7a4_29 kc_J6_267 ?_
  refine g_iand C dJ6_bitCount_0f7a4_32 ?_
  obtain ⟨v3, ev3, T⟩ := tt_lt T
  refine g_nameI ev3 ?_
  refine g_istore_n (L' := [(0, .int v3)]) C dJ6_bitCount_0f7a4_33 rfl (by decide) rfl ?_
  refine g_iload_n (q := 0) C dJ6_bitCount_0f7a4_34 rfl rfl ?_
  refine g_iload_n (q := 0) C dJ6_bitCount_0f7a4_35 rfl rfl ?_
  refine g_bipush (v := 8) C dJ6_bitCount_0f7a4_36 (by decide) ?_
  refine g_iushr C dJ6_bitCount_0f7a4_38 ?_
  refine g_iadd C dJ6_bitCount_0f7a4_39 ?_
  obtain ⟨v4, ev4, T⟩ := tt_lt T
  refine g_nameI ev4 ?_
  refine g_istore_n (L' := [(0, .int v4)]) C dJ6_bitCount_0f7a4_40 rfl (by decide) rfl ?_
  refine g_iload_n (q := 0) C dJ6_bitCount_0f7a4_41 rfl rfl ?_
  refine g_iload_n (q := 0) C dJ6_bitCount_0f7a4_42 rfl rfl ?_
  refine g_bipush (v := 16) C dJ6_bitCount_0f7a4_43 (by decide) ?_
  refine g_iushr C dJ6_bitCount_0f7a4_45 ?_
  refine g_iadd C dJ6_bitCount_0f7a4_46 ?_
  obtain ⟨v5, ev5, T⟩ := tt_lt T
  refine g_nameI ev5 ?_
  refine g_istore_n (L' := [(0, .int v5)]) C dJ6_bitCount_0f7a4_47 rfl (by decide) rfl ?_
  refine g_iload_n (q := 0) C dJ6_bitCount_0f7a4_48 rfl rfl ?_
  refine g_bipush (v := 63) C dJ6_bitCount_0f7a4_49 (by decide) ?_
  refine g_iand C dJ6_bitCount_0f7a4_51 ?_
  exact g_iret C dJ6_bitCount_0f7a4_52 (hR _ (tt_some T))

theorem ok_fJ_bitCount_0f7a4 {l : Launch} {K : Int32 → Prop} (x0 : Int32) (h : Hp) (T : Tt (fJ_bitCount_0f7a4 x0) K) : Ok ΛC l yJ6_bitCount_0f7a4 cJ6_bitCount_0f7a4 1 (some .int) rm_fJ_bitCount_0f7a4 [.int x0] h (PIs K h) :=
  Ok.of RJ6 rfl (by decide) ⟨rfl, rfl⟩ (Nat.le_of_ble_eq_true rfl) (fun x C => k_fJ_bitCount_0f7a4 C x0 h (fun v q => ⟨v, rfl, rfl, q⟩) T)

abbrev rm_f5_nameOf : Room := { frames := 1, cells := 0, slots := 0, locals := 20 }
noncomputable def f5_nameOf (x0 : Int32) (x1 : Nat) (x2 : Int32) (h : Hp) : Option (Int64) :=
  if x0 = 1 then (some ((h.1 x1 5).toInt64)) else if x0 = 2 then (some ((h.1 x1 2).toInt64)) else if x0 = 3 then (some ((h.1 x1 3).toInt64)) else if x0 = 4 then (some ((h.1 x1 6).toInt64)) else if x0 = 5 then ((fJ_bitCount_0f7a4 (h.1 x1 9)).bind fun r6 => some r6.toInt64) else if x0 = 6 then (some ((h.1 x1 7).toInt64)) else (some x2.toInt64)
set_option maxRecDepth 100000 in
set_option maxHeartbeats 4000000 in
theorem k_f5_nameOf {x : Mx} {l : Launch} {post0 : Option Value → Hp → Prop} (C : Cx ΛC x l RX5 cX5_nameOf rm_f5_nameOf (some .long) 3 post0) {K : Int64 → Prop} (x0 : Int32) (x1 : Nat) (x2 : Int32) (kx1 : kdC x1 = 0) (h : Hp) (hR : ∀ v : Int64, K v → post0 (some (.long v)) h) (T : Tt (f5_nameOf x0 x1 x2 h) K) : G ΛC x 0 [(0, .int x0), (1, .ref x1), (2, .int x2)] [] h := by
  refine g_iload_n (q := 0) C dX5_nameOf_0 rfl rfl ?_
  by_cases c1 : x0 = 1
  · have T := tt_t T c1
    refine g_tableIn (tgt := 40) C dX5_nameOf_1 (by rw [c1]; decide) (by rw [c1]; decide) (by rw [c1]; rfl) (by decide) ?_
    refine g_aload_n (q := 1) C dX5_nameOf_40 rfl rfl ?_
    refine g_getI (k := 5) C dX5_nameOf_41 (hpC kx1 rfl) kx1 fl_X5_50 rfl ?_
    refine g_i2l C dX5_nameOf_44 ?_
    exact g_lret C dX5_nameOf_45 (hR _ (tt_some T))
  · have T := tt_f T c1
    by_cases c2 : x0 = 2
    · have T := tt_t T c2
      refine g_tableIn (tgt := 46) C dX5_nameOf_1 (by rw [c2]; decide) (by rw [c2]; decide) (by rw [c2]; rfl) (by decide) ?_
      refine g_aload_n (q := 1) C dX5_nameOf_46 rfl rfl ?_
      refine g_getI (k := 2) C dX5_nameOf_47 (hpC kx1 rfl) kx1 fl_X5_55 rfl ?_
      refine g_i2l C dX5_nameOf_50 ?_
      exact g_lret C dX5_nameOf_51 (hR _ (tt_some T))
    · have T := tt_f T c2
      by_cases c3 : x0 = 3
      · have T := tt_t T c3
        refine g_tableIn (tgt := 52) C dX5_nameOf_1 (by rw [c3]; decide) (by rw [c3]; decide) (by rw [c3]; rfl) (by decide) ?_
        refine g_aload_n (q := 1) C dX5_nameOf_52 rfl rfl ?_
        refine g_getI (k := 3) C dX5_nameOf_53 (hpC kx1 rfl) kx1 fl_X5_58 rfl ?_
        refine g_i2l C dX5_nameOf_56 ?_
        exact g_lret C dX5_nameOf_57 (hR _ (tt_some T))
      · have T := tt_f T c3
        by_cases c4 : x0 = 4
        · have T := tt_t T c4
          refine g_tableIn (tgt := 58) C dX5_nameOf_1 (by rw [c4]; decide) (by rw [c4]; decide) (by rw [c4]; rfl) (by decide) ?_
          refine g_aload_n (q := 1) C dX5_nameOf_58 rfl rfl ?_
          refine g_getI (k := 6) C dX5_nameOf_59 (hpC kx1 rfl) kx1 fl_X5_61 rfl ?_
          refine g_i2l C dX5_nameOf_62 ?_
          exact g_lret C dX5_nameOf_63 (hR _ (tt_some T))
        · have T := tt_f T c4
          by_cases c5 : x0 = 5
          · have T := tt_t T c5
            refine g_tableIn (tgt := 64) C dX5_nameOf_1 (by rw [c5]; decide) (by rw [c5]; decide) (by rw [c5]; rfl) (by decide) ?_
            refine g_aload_n (q := 1) C dX5_nameOf_64 rfl rfl ?_
            refine g_getI (k := 9) C dX5_nameOf_65 (hpC kx1 rfl) kx1 fl_X5_64 rfl ?_
            refine g_callS (As := [.int (h.1 x1 9)]) C dX5_nameOf_68 ml_X5_67 ys_fJ_bitCount_0f7a4 ⟨rfl, rfl⟩ ⟨Nat.le_of_ble_eq_true rfl, Nat.le_of_ble_eq_true rfl⟩ rfl rfl (Nat.le_of_ble_eq_true rfl) (ok_fJ_bitCount_0f7a4 (h.1 x1 9) h (tt_bind T)) ?_
            rintro _ _ ⟨r6, rfl, rfl, T⟩
            show G ΛC x 71 [(0, .int x0), (1, .ref x1), (2, .int x2)] [.int r6] h
            refine g_i2l C dX5_nameOf_71 ?_
            exact g_lret C dX5_nameOf_72 (hR _ (tt_some T))
          · have T := tt_f T c5
            by_cases c7 : x0 = 6
            · have T := tt_t T c7
              refine g_tableIn (tgt := 73) C dX5_nameOf_1 (by rw [c7]; decide) (by rw [c7]; decide) (by rw [c7]; rfl) (by decide) ?_
              refine g_aload_n (q := 1) C dX5_nameOf_73 rfl rfl ?_
              refine g_getI (k := 7) C dX5_nameOf_74 (hpC kx1 rfl) kx1 fl_X5_73 rfl ?_
              refine g_i2l C dX5_nameOf_77 ?_
              exact g_lret C dX5_nameOf_78 (hR _ (tt_some T))
            · have T := tt_f T c7
              have zc1 := ne32 c1
              have zc2 := ne32 c2
              have zc3 := ne32 c3
              have zc4 := ne32 c4
              have zc5 := ne32 c5
              have zc7 := ne32 c7
              rw [show ((1 : Int32)).toInt = 1 from by decide] at zc1
              rw [show ((2 : Int32)).toInt = 2 from by decide] at zc2
              rw [show ((3 : Int32)).toInt = 3 from by decide] at zc3
              rw [show ((4 : Int32)).toInt = 4 from by decide] at zc4
              rw [show ((5 : Int32)).toInt = 5 from by decide] at zc5
              rw [show ((6 : Int32)).toInt = 6 from by decide] at zc7
              refine g_tableOut (tgt := 79) C dX5_nameOf_1 (by omega) (by decide) ?_
              refine g_iload_n (q := 2) C dX5_nameOf_79 rfl rfl ?_
              refine g_i2l C dX5_nameOf_80 ?_
              exact g_lret C dX5_nameOf_81 (hR _ (tt_some T))

theorem ok_f5_nameOf {l : Launch} {K : Int64 → Prop} (x0 : Int32) (x1 : Nat) (x2 : Int32) (kx1 : kdC x1 = 0) (h : Hp) (T : Tt (f5_nameOf x0 x1 x2 h) K) : Ok ΛC l yX5_nameOf cX5_nameOf 3 (some .long) rm_f5_nameOf [.int x0, .ref x1, .int x2] h (PJs K h) :=
  Ok.of RX5 rfl (by decide) ⟨rfl, rfl⟩ (Nat.le_of_ble_eq_true rfl) (fun x C => k_f5_nameOf C x0 x1 x2 kx1 h (fun v q => ⟨v, rfl, rfl, q⟩) T)

abbrev rm_f5_truth : Room := { frames := 0, cells := 0, slots := 0, locals := 0 }
noncomputable def f5_truth (x0 : Int32) : Option (Int64) :=
  if x0 = 0 then (some 0) else (some 1)
set_option maxRecDepth 100000 in
set_option maxHeartbeats 4000000 in
theorem k_f5_truth {x : Mx} {l : Launch} {post0 : Option Value → Hp → Prop} (C : Cx ΛC x l RX5 cX5_truth rm_f5_truth (some .long) 1 post0) {K : Int64 → Prop} (x0 : Int32) (h : Hp) (hR : ∀ v : Int64, K v → post0 (some (.long v)) h) (T : Tt (f5_truth x0) K) : G ΛC x 0 [(0, .int x0)] [] h := by
  refine g_iload_n (q := 0) C dX5_truth_0 rfl rfl ?_
  refine g_if_eq (tgt := 8) C dX5_truth_1 (by decide) (fun c1 => ?_) (fun c1 => ?_)
  · have T := tt_t T c1
    refine g_lconst (v := 0) C dX5_truth_8 (by decide) ?_
    exact g_lret C dX5_truth_9 (hR _ (tt_some T))
  · have T := tt_f T c1
    refine g_lconst (v := 1) C dX5_truth_4 (by decide) ?_
    refine g_goto (tgt := 9) C dX5_truth_5 (by decide) ?_
    exact g_lret C dX5_truth_9 (hR _ (tt_some T))

theorem ok_f5_truth {l : Launch} {K : Int64 → Prop} (x0 : Int32) (h : Hp) (T : Tt (f5_truth x0) K) : Ok ΛC l yX5_truth cX5_truth 1 (some .long) rm_f5_truth [.int x0] h (PJs K h) :=
  Ok.of RX5 rfl (by decide) ⟨rfl, rfl⟩ (Nat.le_of_ble_eq_true rfl) (fun x C => k_f5_truth C x0 h (fun v q => ⟨v, rfl, rfl, q⟩) T)

abbrev rm_f5_product : Room := { frames := 0, cells := 0, slots := 0, locals := 0 }
noncomputable def f5_product_41 (x0 : Int64) (x2 : Int64) (s0 : Int64) (s1 : Int64) (s2 : Int64) : Option (Int64) :=
  gd (!decide (s0 = 0)) <| if lg_cmp s2 (s1 / s0) ≤ 0 then (some (x0 * x2)) else (some (-9223372036854775808))
set_option maxRecDepth 100000 in
set_option maxHeartbeats 4000000 in
theorem k_f5_product_41 {x : Mx} {l : Launch} {post0 : Option Value → Hp → Prop} (C : Cx ΛC x l RX5 cX5_product rm_f5_product (some .long) 4 post0) {K : Int64 → Prop} (x0 : Int64) (x2 : Int64) (s0 : Int64) (s1 : Int64) (s2 : Int64) (h : Hp) (hR : ∀ v : Int64, K v → post0 (some (.long v)) h) (T : Tt (f5_product_41 x0 x2 s0 s1 s2) K) : G ΛC x 41 [(0, .long x0), (2, .long x2)] [.long s0, .long s1, .long s2] h := by
  obtain ⟨g5, T⟩ := tt_gd T
  refine g_ldiv C dX5_product_41 (nz_of g5) ?_
  refine g_lcmp C dX5_product_42 ?_
  refine g_if_le (tgt := 52) C dX5_product_43 (by decide) (fun c6 => ?_) (fun c6 => ?_)
  · have T := tt_t T c6
    refine g_lload_n (q := 0) C dX5_product_52 rfl rfl ?_
    refine g_lload_n (q := 1) C dX5_product_53 rfl rfl ?_
    refine g_lmul C dX5_product_54 ?_
    exact g_lret C dX5_product_55 (hR _ (tt_some T))
  · have T := tt_f T c6
    refine g_ldc2 (v := (-9223372036854775808)) C dX5_product_46 kl_X5_48 ?_
    refine g_goto (tgt := 55) C dX5_product_49 (by decide) ?_
    exact g_lret C dX5_product_55 (hR _ (tt_some T))

noncomputable def f5_product_26 (x0 : Int64) (x2 : Int64) (s0 : Int64) : Option (Int64) :=
  if 0 ≤ lg_cmp x0 0 then (f5_product_41 x0 x2 x0 1000000000000 s0) else (f5_product_41 x0 x2 (-x0) 1000000000000 s0)
set_option maxRecDepth 100000 in
set_option maxHeartbeats 4000000 in
theorem k_f5_product_26 {x : Mx} {l : Launch} {post0 : Option Value → Hp → Prop} (C : Cx ΛC x l RX5 cX5_product rm_f5_product (some .long) 4 post0) {K : Int64 → Prop} (x0 : Int64) (x2 : Int64) (s0 : Int64) (h : Hp) (hR : ∀ v : Int64, K v → post0 (some (.long v)) h) (T : Tt (f5_product_26 x0 x2 s0) K) : G ΛC x 26 [(0, .long x0), (2, .long x2)] [.long s0] h := by
  refine g_ldc2 (v := 1000000000000) C dX5_product_26 kl_X5_44 ?_
  refine g_lload_n (q := 0) C dX5_product_29 rfl rfl ?_
  refine g_lconst (v := 0) C dX5_product_30 (by decide) ?_
  refine g_lcmp C dX5_product_31 ?_
  refine g_if_ge (tgt := 40) C dX5_product_32 (by decide) (fun c4 => ?_) (fun c4 => ?_)
  · have T := tt_t T c4
    refine g_lload_n (q := 0) C dX5_product_40 rfl rfl ?_
    exact k_f5_product_41 C x0 x2 x0 1000000000000 s0 h hR T
  · have T := tt_f T c4
    refine g_lload_n (q := 0) C dX5_product_35 rfl rfl ?_
    refine g_lneg C dX5_product_36 ?_
    refine g_goto (tgt := 41) C dX5_product_37 (by decide) ?_
    exact k_f5_product_41 C x0 x2 (-x0) 1000000000000 s0 h hR T

noncomputable def f5_product (x0 : Int64) (x2 : Int64) : Option (Int64) :=
  if lg_cmp x0 0 = 0 then (some 0) else (if lg_cmp x2 0 = 0 then (some 0) else (if 0 ≤ lg_cmp x2 0 then (f5_product_26 x0 x2 x2) else (f5_product_26 x0 x2 (-x2))))
set_option maxRecDepth 100000 in
set_option maxHeartbeats 4000000 in
theorem k_f5_product {x : Mx} {l : Launch} {post0 : Option Value → Hp → Prop} (C : Cx ΛC x l RX5 cX5_product rm_f5_product (some .long) 4 post0) {K : Int64 → Prop} (x0 : Int64) (x2 : Int64) (h : Hp) (hR : ∀ v : Int64, K v → post0 (some (.long v)) h) (T : Tt (f5_product x0 x2) K) : G ΛC x 0 [(0, .long x0), (2, .long x2)] [] h := by
  refine g_lload_n (q := 0) C dX5_product_0 rfl rfl ?_
  refine g_lconst (v := 0) C dX5_product_1 (by decide) ?_
  refine g_lcmp C dX5_product_2 ?_
  refine g_if_eq (tgt := 12) C dX5_product_3 (by decide) (fun c1 => ?_) (fun c1 => ?_)
  · have T := tt_t T c1
    refine g_lconst (v := 0) C dX5_product_12 (by decide) ?_
    exact g_lret C dX5_product_13 (hR _ (tt_some T))
  · have T := tt_f T c1
    refine g_lload_n (q := 1) C dX5_product_6 rfl rfl ?_
    refine g_lconst (v := 0) C dX5_product_7 (by decide) ?_
    refine g_lcmp C dX5_product_8 ?_
    refine g_if_ne (tgt := 14) C dX5_product_9 (by decide) (fun c2 => ?_) (fun c2 => ?_)
    · have T := tt_f T c2
      refine g_lload_n (q := 1) C dX5_product_14 rfl rfl ?_
      refine g_lconst (v := 0) C dX5_product_15 (by decide) ?_
      refine g_lcmp C dX5_product_16 ?_
      refine g_if_ge (tgt := 25) C dX5_product_17 (by decide) (fun c3 => ?_) (fun c3 => ?_)
      · have T := tt_t T c3
        refine g_lload_n (q := 1) C dX5_product_25 rfl rfl ?_
        exact k_f5_product_26 C x0 x2 x2 h hR T
      · have T := tt_f T c3
        refine g_lload_n (q := 1) C dX5_product_20 rfl rfl ?_
        refine g_lneg C dX5_product_21 ?_
        refine g_goto (tgt := 26) C dX5_product_22 (by decide) ?_
        exact k_f5_product_26 C x0 x2 (-x2) h hR T
    · have T := tt_t T c2
      refine g_lconst (v := 0) C dX5_product_12 (by decide) ?_
      exact g_lret C dX5_product_13 (hR _ (tt_some T))

theorem ok_f5_product {l : Launch} {K : Int64 → Prop} (x0 : Int64) (x2 : Int64) (h : Hp) (T : Tt (f5_product x0 x2) K) : Ok ΛC l yX5_product cX5_product 4 (some .long) rm_f5_product [.long x0, .long x2] h (PJs K h) :=
  Ok.of RX5 rfl (by decide) ⟨rfl, rfl⟩ (Nat.le_of_ble_eq_true rfl) (fun x C => k_f5_product C x0 x2 h (fun v q => ⟨v, rfl, rfl, q⟩) T)

abbrev rm_f5_sign : Room := { frames := 1, cells := 0, slots := 0, locals := 23 }
noncomputable def f5_sign_81 (s0 : Int32) : Option (Int64) :=
  (f5_truth s0).bind fun r3 => some r3
set_option maxRecDepth 100000 in
set_option maxHeartbeats 4000000 in
theorem k_f5_sign_81 {x : Mx} {l : Launch} {post0 : Option Value → Hp → Prop} (C : Cx ΛC x l RX5 cX5_sign rm_f5_sign (some .long) 5 post0) {K : Int64 → Prop} (s0 : Int32) (h : Hp) (hR : ∀ v : Int64, K v → post0 (some (.long v)) h) (T : Tt (f5_sign_81 s0) K) : G ΛC x 81 [] [.int s0] h := by
  refine g_callS (As := [.int s0]) C dX5_sign_81 ml_X5_36 ys_f5_truth ⟨rfl, rfl⟩ ⟨Nat.le_of_ble_eq_true rfl, Nat.le_of_ble_eq_true rfl⟩ rfl rfl (Nat.le_of_ble_eq_true rfl) (ok_f5_truth s0 h (tt_bind T)) ?_
  rintro _ _ ⟨r3, rfl, rfl, T⟩
  show G ΛC x 84 [] [.long r3] h
  exact g_lret C dX5_sign_84 (hR _ (tt_some T))

noncomputable def f5_sign_76 : Option (Int64) :=
  f5_sign_81 1
set_option maxRecDepth 100000 in
set_option maxHeartbeats 4000000 in
theorem k_f5_sign_76 {x : Mx} {l : Launch} {post0 : Option Value → Hp → Prop} (C : Cx ΛC x l RX5 cX5_sign rm_f5_sign (some .long) 5 post0) {K : Int64 → Prop} (h : Hp) (hR : ∀ v : Int64, K v → post0 (some (.long v)) h) (T : Tt (f5_sign_76) K) : G ΛC x 76 [] [] h := by
  refine g_iconst (v := 1) C dX5_sign_76 (by decide) ?_
  refine g_goto (tgt := 81) C dX5_sign_77 (by decide) ?_
  exact k_f5_sign_81 C 1 h hR T

noncomputable def f5_sign_102 (s0 : Int32) : Option (Int64) :=
  (f5_truth s0).bind fun r7 => some r7
set_option maxRecDepth 100000 in
set_option maxHeartbeats 4000000 in
theorem k_f5_sign_102 {x : Mx} {l : Launch} {post0 : Option Value → Hp → Prop} (C : Cx ΛC x l RX5 cX5_sign rm_f5_sign (some .long) 5 post0) {K : Int64 → Prop} (s0 : Int32) (h : Hp) (hR : ∀ v : Int64, K v → post0 (some (.long v)) h) (T : Tt (f5_sign_102 s0) K) : G ΛC x 102 [] [.int s0] h := by
  refine g_callS (As := [.int s0]) C dX5_sign_102 ml_X5_36 ys_f5_truth ⟨rfl, rfl⟩ ⟨Nat.le_of_ble_eq_true rfl, Nat.le_of_ble_eq_true rfl⟩ rfl rfl (Nat.le_of_ble_eq_true rfl) (ok_f5_truth s0 h (tt_bind T)) ?_
  rintro _ _ ⟨r7, rfl, rfl, T⟩
  show G ΛC x 105 [] [.long r7] h
  exact g_lret C dX5_sign_105 (hR _ (tt_some T))

noncomputable def f5_sign_101 : Option (Int64) :=
  f5_sign_102 0
set_option maxRecDepth 100000 in
set_option maxHeartbeats 4000000 in
theorem k_f5_sign_101 {x : Mx} {l : Launch} {post0 : Option Value → Hp → Prop} (C : Cx ΛC x l RX5 cX5_sign rm_f5_sign (some .long) 5 post0) {K : Int64 → Prop} (h : Hp) (hR : ∀ v : Int64, K v → post0 (some (.long v)) h) (T : Tt (f5_sign_101) K) : G ΛC x 101 [] [] h := by
  refine g_iconst (v := 0) C dX5_sign_101 (by decide) ?_
  exact k_f5_sign_102 C 0 h hR T

noncomputable def f5_sign_117 (s0 : Int32) : Option (Int64) :=
  (f5_truth s0).bind fun r14 => some r14
set_option maxRecDepth 100000 in
set_option maxHeartbeats 4000000 in
theorem k_f5_sign_117 {x : Mx} {l : Launch} {post0 : Option Value → Hp → Prop} (C : Cx ΛC x l RX5 cX5_sign rm_f5_sign (some .long) 5 post0) {K : Int64 → Prop} (s0 : Int32) (h : Hp) (hR : ∀ v : Int64, K v → post0 (some (.long v)) h) (T : Tt (f5_sign_117 s0) K) : G ΛC x 117 [] [.int s0] h := by
  refine g_callS (As := [.int s0]) C dX5_sign_117 ml_X5_36 ys_f5_truth ⟨rfl, rfl⟩ ⟨Nat.le_of_ble_eq_true rfl, Nat.le_of_ble_eq_true rfl⟩ rfl rfl (Nat.le_of_ble_eq_true rfl) (ok_f5_truth s0 h (tt_bind T)) ?_
  rintro _ _ ⟨r14, rfl, rfl, T⟩
  show G ΛC x 120 [] [.long r14] h
  exact g_lret C dX5_sign_120 (hR _ (tt_some T))

noncomputable def f5_sign_132 (s0 : Int32) : Option (Int64) :=
  (f5_truth s0).bind fun r17 => some r17
set_option maxRecDepth 100000 in
set_option maxHeartbeats 4000000 in
theorem k_f5_sign_132 {x : Mx} {l : Launch} {post0 : Option Value → Hp → Prop} (C : Cx ΛC x l RX5 cX5_sign rm_f5_sign (some .long) 5 post0) {K : Int64 → Prop} (s0 : Int32) (h : Hp) (hR : ∀ v : Int64, K v → post0 (some (.long v)) h) (T : Tt (f5_sign_132 s0) K) : G ΛC x 132 [] [.int s0] h := by
  refine g_callS (As := [.int s0]) C dX5_sign_132 ml_X5_36 ys_f5_truth ⟨rfl, rfl⟩ ⟨Nat.le_of_ble_eq_true rfl, Nat.le_of_ble_eq_true rfl⟩ rfl rfl (Nat.le_of_ble_eq_true rfl) (ok_f5_truth s0 h (tt_bind T)) ?_
  rintro _ _ ⟨r17, rfl, rfl, T⟩
  show G ΛC x 135 [] [.long r17] h
  exact g_lret C dX5_sign_135 (hR _ (tt_some T))

noncomputable def f5_sign_147 (s0 : Int32) : Option (Int64) :=
  (f5_truth s0).bind fun r20 => some r20
set_option maxRecDepth 100000 in
set_option maxHeartbeats 4000000 in
theorem k_f5_sign_147 {x : Mx} {l : Launch} {post0 : Option Value → Hp → Prop} (C : Cx ΛC x l RX5 cX5_sign rm_f5_sign (some .long) 5 post0) {K : Int64 → Prop} (s0 : Int32) (h : Hp) (hR : ∀ v : Int64, K v → post0 (some (.long v)) h) (T : Tt (f5_sign_147 s0) K) : G ΛC x 147 [] [.int s0] h := by
  refine g_callS (As := [.int s0]) C dX5_sign_147 ml_X5_36 ys_f5_truth ⟨rfl, rfl⟩ ⟨Nat.le_of_ble_eq_true rfl, Nat.le_of_ble_eq_true rfl⟩ rfl rfl (Nat.le_of_ble_eq_true rfl) (ok_f5_truth s0 h (tt_bind T)) ?_
  rintro _ _ ⟨r20, rfl, rfl, T⟩
  show G ΛC x 150 [] [.long r20] h
  exact g_lret C dX5_sign_150 (hR _ (tt_some T))

noncomputable def f5_sign_162 (s0 : Int32) : Option (Int64) :=
  (f5_truth s0).bind fun r23 => some r23
set_option maxRecDepth 100000 in
set_option maxHeartbeats 4000000 in
theorem k_f5_sign_162 {x : Mx} {l : Launch} {post0 : Option Value → Hp → Prop} (C : Cx ΛC x l RX5 cX5_sign rm_f5_sign (some .long) 5 post0) {K : Int64 → Prop} (s0 : Int32) (h : Hp) (hR : ∀ v : Int64, K v → post0 (some (.long v)) h) (T : Tt (f5_sign_162 s0) K) : G ΛC x 162 [] [.int s0] h := by
  refine g_callS (As := [.int s0]) C dX5_sign_162 ml_X5_36 ys_f5_truth ⟨rfl, rfl⟩ ⟨Nat.le_of_ble_eq_true rfl, Nat.le_of_ble_eq_true rfl⟩ rfl rfl (Nat.le_of_ble_eq_true rfl) (ok_f5_truth s0 h (tt_bind T)) ?_
  rintro _ _ ⟨r23, rfl, rfl, T⟩
  show G ΛC x 165 [] [.long r23] h
  exact g_lret C dX5_sign_165 (hR _ (tt_some T))

noncomputable def f5_sign_177 (s0 : Int32) : Option (Int64) :=
  (f5_truth s0).bind fun r26 => some r26
set_option maxRecDepth 100000 in
set_option maxHeartbeats 4000000 in
theorem k_f5_sign_177 {x : Mx} {l : Launch} {post0 : Option Value → Hp → Prop} (C : Cx ΛC x l RX5 cX5_sign rm_f5_sign (some .long) 5 post0) {K : Int64 → Prop} (s0 : Int32) (h : Hp) (hR : ∀ v : Int64, K v → post0 (some (.long v)) h) (T : Tt (f5_sign_177 s0) K) : G ΛC x 177 [] [.int s0] h := by
  refine g_callS (As := [.int s0]) C dX5_sign_177 ml_X5_36 ys_f5_truth ⟨rfl, rfl⟩ ⟨Nat.le_of_ble_eq_true rfl, Nat.le_of_ble_eq_true rfl⟩ rfl rfl (Nat.le_of_ble_eq_true rfl) (ok_f5_truth s0 h (tt_bind T)) ?_
  rintro _ _ ⟨r26, rfl, rfl, T⟩
  show G ΛC x 180 [] [.long r26] h
  exact g_lret C dX5_sign_180 (hR _ (tt_some T))

noncomputable def f5_sign_192 (s0 : Int32) : Option (Int64) :=
  (f5_truth s0).bind fun r29 => some r29
set_option maxRecDepth 100000 in
set_option maxHeartbeats 4000000 in
theorem k_f5_sign_192 {x : Mx} {l : Launch} {post0 : Option Value → Hp → Prop} (C : Cx ΛC x l RX5 cX5_sign rm_f5_sign (some .long) 5 post0) {K : Int64 → Prop} (s0 : Int32) (h : Hp) (hR : ∀ v : Int64, K v → post0 (some (.long v)) h) (T : Tt (f5_sign_192 s0) K) : G ΛC x 192 [] [.int s0] h := by
  refine g_callS (As := [.int s0]) C dX5_sign_192 ml_X5_36 ys_f5_truth ⟨rfl, rfl⟩ ⟨Nat.le_of_ble_eq_true rfl, Nat.le_of_ble_eq_true rfl⟩ rfl rfl (Nat.le_of_ble_eq_true rfl) (ok_f5_truth s0 h (tt_bind T)) ?_
  rintro _ _ ⟨r29, rfl, rfl, T⟩
  show G ΛC x 195 [] [.long r29] h
  exact g_lret C dX5_sign_195 (hR _ (tt_some T))

noncomputable def f5_sign (x0 : Int32) (x1 : Int64) (x3 : Int64) : Option (Int64) :=
  if x0 = 8 then (if lg_cmp x1 0 = 0 then (if lg_cmp x3 0 = 0 then (f5_sign_81 0) else (f5_sign_76)) else (f5_sign_76)) else if x0 = 9 then (if lg_cmp x1 0 = 0 then (f5_sign_101) else (if lg_cmp x3 0 = 0 then (f5_sign_101) else (f5_sign_102 1))) else if x0 = 10 then (if lg_cmp x3 0 = 0 then (some (-9223372036854775808)) else (gd (!decide (x3 = 0)) <| some (x1 / x3))) else if x0 = 11 then (if 0 ≤ lg_cmp x1 x3 then (f5_sign_117 0) else (f5_sign_117 1)) else if x0 = 12 then (if 0 < lg_cmp x1 x3 then (f5_sign_132 0) else (f5_sign_132 1)) else if x0 = 13 then (if lg_cmp x1 x3 = 0 then (f5_sign_147 1) else (f5_sign_147 0)) else if x0 = 14 then (if lg_cmp x1 x3 = 0 then (f5_sign_162 0) else (f5_sign_162 1)) else if x0 = 15 then (if lg_cmp x1 x3 < 0 then (f5_sign_177 0) else (f5_sign_177 1)) else if x0 = 16 then (if lg_cmp x1 x3 ≤ 0 then (f5_sign_192 0) else (f5_sign_192 1)) else if x0 = 17 then (some (x1 + x3)) else if x0 = 18 then (some (x1 - x3)) else if x0 = 19 then ((f5_product x1 x3).bind fun r33 => some r33) else (if lg_cmp x3 0 = 0 then (some (-9223372036854775808)) else (gd (!decide (x3 = 0)) <| some (x1 / x3)))
set_option maxRecDepth 100000 in
set_option maxHeartbeats 4000000 in
theorem k_f5_sign {x : Mx} {l : Launch} {post0 : Option Value → Hp → Prop} (C : Cx ΛC x l RX5 cX5_sign rm_f5_sign (some .long) 5 post0) {K : Int64 → Prop} (x0 : Int32) (x1 : Int64) (x3 : Int64) (h : Hp) (hR : ∀ v : Int64, K v → post0 (some (.long v)) h) (T : Tt (f5_sign x0 x1 x3) K) : G ΛC x 0 [(0, .int x0), (1, .long x1), (3, .long x3)] [] h := by
  refine g_iload_n (q := 0) C dX5_sign_0 rfl rfl ?_
  by_cases c1 : x0 = 8
  · have T := tt_t T c1
    refine g_tableIn (tgt := 64) C dX5_sign_1 (by rw [c1]; decide) (by rw [c1]; decide) (by rw [c1]; rfl) (by decide) ?_
    refine g_lload_n (q := 1) C dX5_sign_64 rfl rfl ?_
    refine g_lconst (v := 0) C dX5_sign_65 (by decide) ?_
    refine g_lcmp C dX5_sign_66 ?_
    refine g_if_ne (tgt := 76) C dX5_sign_67 (by decide) (fun c2 => ?_) (fun c2 => ?_)
    · have T := tt_f T c2
      refine g_sub [] rfl ?_
      exact k_f5_sign_76 C h hR T
    · have T := tt_t T c2
      refine g_lload_n (q := 2) C dX5_sign_70 rfl rfl ?_
      refine g_lconst (v := 0) C dX5_sign_71 (by decide) ?_
      refine g_lcmp C dX5_sign_72 ?_
      refine g_if_eq (tgt := 80) C dX5_sign_73 (by decide) (fun c4 => ?_) (fun c4 => ?_)
      · have T := tt_t T c4
        refine g_iconst (v := 0) C dX5_sign_80 (by decide) ?_
        refine g_sub [] rfl ?_
        exact k_f5_sign_81 C 0 h hR T
      · have T := tt_f T c4
        refine g_sub [] rfl ?_
        exact k_f5_sign_76 C h hR T
  · have T := tt_f T c1
    by_cases c5 : x0 = 9
    · have T := tt_t T c5
      refine g_tableIn (tgt := 85) C dX5_sign_1 (by rw [c5]; decide) (by rw [c5]; decide) (by rw [c5]; rfl) (by decide) ?_
      refine g_lload_n (q := 1) C dX5_sign_85 rfl rfl ?_
      refine g_lconst (v := 0) C dX5_sign_86 (by decide) ?_
      refine g_lcmp C dX5_sign_87 ?_
      refine g_if_eq (tgt := 101) C dX5_sign_88 (by decide) (fun c6 => ?_) (fun c6 => ?_)
      · have T := tt_t T c6
        refine g_sub [] rfl ?_
        exact k_f5_sign_101 C h hR T
      · have T := tt_f T c6
        refine g_lload_n (q := 2) C dX5_sign_91 rfl rfl ?_
        refine g_lconst (v := 0) C dX5_sign_92 (by decide) ?_
        refine g_lcmp C dX5_sign_93 ?_
        refine g_if_eq (tgt := 101) C dX5_sign_94 (by decide) (fun c8 => ?_) (fun c8 => ?_)
        · have T := tt_t T c8
          refine g_sub [] rfl ?_
          exact k_f5_sign_101 C h hR T
        · have T := tt_f T c8
          refine g_iconst (v := 1) C dX5_sign_97 (by decide) ?_
          refine g_goto (tgt := 102) C dX5_sign_98 (by decide) ?_
          refine g_sub [] rfl ?_
          exact k_f5_sign_102 C 1 h hR T
    · have T := tt_f T c5
      by_cases c9 : x0 = 10
      · have T := tt_t T c9
        refine g_tableIn (tgt := 210) C dX5_sign_1 (by rw [c9]; decide) (by rw [c9]; decide) (by rw [c9]; rfl) (by decide) ?_
        refine g_lload_n (q := 2) C dX5_sign_210 rfl rfl ?_
        refine g_lconst (v := 0) C dX5_sign_211 (by decide) ?_
        refine g_lcmp C dX5_sign_212 ?_
        refine g_if_ne (tgt := 222) C dX5_sign_213 (by decide) (fun c10 => ?_) (fun c10 => ?_)
        · have T := tt_f T c10
          refine g_lload_n (q := 1) C dX5_sign_222 rfl rfl ?_
          refine g_lload_n (q := 2) C dX5_sign_223 rfl rfl ?_
          obtain ⟨g11, T⟩ := tt_gd T
          refine g_ldiv C dX5_sign_224 (nz_of g11) ?_
          exact g_lret C dX5_sign_225 (hR _ (tt_some T))
        · have T := tt_t T c10
          refine g_ldc2 (v := (-9223372036854775808)) C dX5_sign_216 kl_X5_48 ?_
          refine g_goto (tgt := 225) C dX5_sign_219 (by decide) ?_
          exact g_lret C dX5_sign_225 (hR _ (tt_some T))
      · have T := tt_f T c9
        by_cases c12 : x0 = 11
        · have T := tt_t T c12
          refine g_tableIn (tgt := 106) C dX5_sign_1 (by rw [c12]; decide) (by rw [c12]; decide) (by rw [c12]; rfl) (by decide) ?_
          refine g_lload_n (q := 1) C dX5_sign_106 rfl rfl ?_
          refine g_lload_n (q := 2) C dX5_sign_107 rfl rfl ?_
          refine g_lcmp C dX5_sign_108 ?_
          refine g_if_ge (tgt := 116) C dX5_sign_109 (by decide) (fun c13 => ?_) (fun c13 => ?_)
          · have T := tt_t T c13
            refine g_iconst (v := 0) C dX5_sign_116 (by decide) ?_
            refine g_sub [] rfl ?_
            exact k_f5_sign_117 C 0 h hR T
          · have T := tt_f T c13
            refine g_iconst (v := 1) C dX5_sign_112 (by decide) ?_
            refine g_goto (tgt := 117) C dX5_sign_113 (by decide) ?_
            refine g_sub [] rfl ?_
            exact k_f5_sign_117 C 1 h hR T
        · have T := tt_f T c12
          by_cases c15 : x0 = 12
          · have T := tt_t T c15
            refine g_tableIn (tgt := 121) C dX5_sign_1 (by rw [c15]; decide) (by rw [c15]; decide) (by rw [c15]; rfl) (by decide) ?_
            refine g_lload_n (q := 1) C dX5_sign_121 rfl rfl ?_
            refine g_lload_n (q := 2) C dX5_sign_122 rfl rfl ?_
            refine g_lcmp C dX5_sign_123 ?_
            refine g_if_gt (tgt := 131) C dX5_sign_124 (by decide) (fun c16 => ?_) (fun c16 => ?_)
            · have T := tt_t T c16
              refine g_iconst (v := 0) C dX5_sign_131 (by decide) ?_
              refine g_sub [] rfl ?_
              exact k_f5_sign_132 C 0 h hR T
            · have T := tt_f T c16
              refine g_iconst (v := 1) C dX5_sign_127 (by decide) ?_
              refine g_goto (tgt := 132) C dX5_sign_128 (by decide) ?_
              refine g_sub [] rfl ?_
              exact k_f5_sign_132 C 1 h hR T
          · have T := tt_f T c15
            by_cases c18 : x0 = 13
            · have T := tt_t T c18
              refine g_tableIn (tgt := 136) C dX5_sign_1 (by rw [c18]; decide) (by rw [c18]; decide) (by rw [c18]; rfl) (by decide) ?_
              refine g_lload_n (q := 1) C dX5_sign_136 rfl rfl ?_
              refine g_lload_n (q := 2) C dX5_sign_137 rfl rfl ?_
              refine g_lcmp C dX5_sign_138 ?_
              refine g_if_ne (tgt := 146) C dX5_sign_139 (by decide) (fun c19 => ?_) (fun c19 => ?_)
              · have T := tt_f T c19
                refine g_iconst (v := 0) C dX5_sign_146 (by decide) ?_
                refine g_sub [] rfl ?_
                exact k_f5_sign_147 C 0 h hR T
              · have T := tt_t T c19
                refine g_iconst (v := 1) C dX5_sign_142 (by decide) ?_
                refine g_goto (tgt := 147) C dX5_sign_143 (by decide) ?_
                refine g_sub [] rfl ?_
                exact k_f5_sign_147 C 1 h hR T
            · have T := tt_f T c18
              by_cases c21 : x0 = 14
              · have T := tt_t T c21
                refine g_tableIn (tgt := 151) C dX5_sign_1 (by rw [c21]; decide) (by rw [c21]; decide) (by rw [c21]; rfl) (by decide) ?_
                refine g_lload_n (q := 1) C dX5_sign_151 rfl rfl ?_
                refine g_lload_n (q := 2) C dX5_sign_152 rfl rfl ?_
                refine g_lcmp C dX5_sign_153 ?_
                refine g_if_eq (tgt := 161) C dX5_sign_154 (by decide) (fun c22 => ?_) (fun c22 => ?_)
                · have T := tt_t T c22
                  refine g_iconst (v := 0) C dX5_sign_161 (by decide) ?_
                  refine g_sub [] rfl ?_
                  exact k_f5_sign_162 C 0 h hR T
                · have T := tt_f T c22
                  refine g_iconst (v := 1) C dX5_sign_157 (by decide) ?_
                  refine g_goto (tgt := 162) C dX5_sign_158 (by decide) ?_
                  refine g_sub [] rfl ?_
                  exact k_f5_sign_162 C 1 h hR T
              · have T := tt_f T c21
                by_cases c24 : x0 = 15
                · have T := tt_t T c24
                  refine g_tableIn (tgt := 166) C dX5_sign_1 (by rw [c24]; decide) (by rw [c24]; decide) (by rw [c24]; rfl) (by decide) ?_
                  refine g_lload_n (q := 1) C dX5_sign_166 rfl rfl ?_
                  refine g_lload_n (q := 2) C dX5_sign_167 rfl rfl ?_
                  refine g_lcmp C dX5_sign_168 ?_
                  refine g_if_lt (tgt := 176) C dX5_sign_169 (by decide) (fun c25 => ?_) (fun c25 => ?_)
                  · have T := tt_t T c25
                    refine g_iconst (v := 0) C dX5_sign_176 (by decide) ?_
                    refine g_sub [] rfl ?_
                    exact k_f5_sign_177 C 0 h hR T
                  · have T := tt_f T c25
                    refine g_iconst (v := 1) C dX5_sign_172 (by decide) ?_
                    refine g_goto (tgt := 177) C dX5_sign_173 (by decide) ?_
                    refine g_sub [] rfl ?_
                    exact k_f5_sign_177 C 1 h hR T
                · have T := tt_f T c24
                  by_cases c27 : x0 = 16
                  · have T := tt_t T c27
                    refine g_tableIn (tgt := 181) C dX5_sign_1 (by rw [c27]; decide) (by rw [c27]; decide) (by rw [c27]; rfl) (by decide) ?_
                    refine g_lload_n (q := 1) C dX5_sign_181 rfl rfl ?_
                    refine g_lload_n (q := 2) C dX5_sign_182 rfl rfl ?_
                    refine g_lcmp C dX5_sign_183 ?_
                    refine g_if_le (tgt := 191) C dX5_sign_184 (by decide) (fun c28 => ?_) (fun c28 => ?_)
                    · have T := tt_t T c28
                      refine g_iconst (v := 0) C dX5_sign_191 (by decide) ?_
                      refine g_sub [] rfl ?_
                      exact k_f5_sign_192 C 0 h hR T
                    · have T := tt_f T c28
                      refine g_iconst (v := 1) C dX5_sign_187 (by decide) ?_
                      refine g_goto (tgt := 192) C dX5_sign_188 (by decide) ?_
                      refine g_sub [] rfl ?_
                      exact k_f5_sign_192 C 1 h hR T
                  · have T := tt_f T c27
                    by_cases c30 : x0 = 17
                    · have T := tt_t T c30
                      refine g_tableIn (tgt := 196) C dX5_sign_1 (by rw [c30]; decide) (by rw [c30]; decide) (by rw [c30]; rfl) (by decide) ?_
                      refine g_lload_n (q := 1) C dX5_sign_196 rfl rfl ?_
                      refine g_lload_n (q := 2) C dX5_sign_197 rfl rfl ?_
                      refine g_ladd C dX5_sign_198 ?_
                      exact g_lret C dX5_sign_199 (hR _ (tt_some T))
                    · have T := tt_f T c30
                      by_cases c31 : x0 = 18
                      · have T := tt_t T c31
                        refine g_tableIn (tgt := 200) C dX5_sign_1 (by rw [c31]; decide) (by rw [c31]; decide) (by rw [c31]; rfl) (by decide) ?_
                        refine g_lload_n (q := 1) C dX5_sign_200 rfl rfl ?_
                        refine g_lload_n (q := 2) C dX5_sign_201 rfl rfl ?_
                        refine g_lsub C dX5_sign_202 ?_
                        exact g_lret C dX5_sign_203 (hR _ (tt_some T))
                      · have T := tt_f T c31
                        by_cases c32 : x0 = 19
                        · have T := tt_t T c32
                          refine g_tableIn (tgt := 204) C dX5_sign_1 (by rw [c32]; decide) (by rw [c32]; decide) (by rw [c32]; rfl) (by decide) ?_
                          refine g_lload_n (q := 1) C dX5_sign_204 rfl rfl ?_
                          refine g_lload_n (q := 2) C dX5_sign_205 rfl rfl ?_
                          refine g_callS (As := [.long x1, .long x3]) C dX5_sign_206 ml_X5_76 ys_f5_product ⟨rfl, rfl⟩ ⟨Nat.le_of_ble_eq_true rfl, Nat.le_of_ble_eq_true rfl⟩ rfl rfl (Nat.le_of_ble_eq_true rfl) (ok_f5_product x1 x3 h (tt_bind T)) ?_
                          rintro _ _ ⟨r33, rfl, rfl, T⟩
                          show G ΛC x 209 [(0, .int x0), (1, .long x1), (3, .long x3)] [.long r33] h
                          exact g_lret C dX5_sign_209 (hR _ (tt_some T))
                        · have T := tt_f T c32
                          have zc1 := ne32 c1
                          have zc5 := ne32 c5
                          have zc9 := ne32 c9
                          have zc12 := ne32 c12
                          have zc15 := ne32 c15
                          have zc18 := ne32 c18
                          have zc21 := ne32 c21
                          have zc24 := ne32 c24
                          have zc27 := ne32 c27
                          have zc30 := ne32 c30
                          have zc31 := ne32 c31
                          have zc32 := ne32 c32
                          rw [show ((8 : Int32)).toInt = 8 from by decide] at zc1
                          rw [show ((9 : Int32)).toInt = 9 from by decide] at zc5
                          rw [show ((10 : Int32)).toInt = 10 from by decide] at zc9
                          rw [show ((11 : Int32)).toInt = 11 from by decide] at zc12
                          rw [show ((12 : Int32)).toInt = 12 from by decide] at zc15
                          rw [show ((13 : Int32)).toInt = 13 from by decide] at zc18
                          rw [show ((14 : Int32)).toInt = 14 from by decide] at zc21
                          rw [show ((15 : Int32)).toInt = 15 from by decide] at zc24
                          rw [show ((16 : Int32)).toInt = 16 from by decide] at zc27
                          rw [show ((17 : Int32)).toInt = 17 from by decide] at zc30
                          rw [show ((18 : Int32)).toInt = 18 from by decide] at zc31
                          rw [show ((19 : Int32)).toInt = 19 from by decide] at zc32
                          refine g_tableOut (tgt := 210) C dX5_sign_1 (by omega) (by decide) ?_
                          refine g_lload_n (q := 2) C dX5_sign_210 rfl rfl ?_
                          refine g_lconst (v := 0) C dX5_sign_211 (by decide) ?_
                          refine g_lcmp C dX5_sign_212 ?_
                          refine g_if_ne (tgt := 222) C dX5_sign_213 (by decide) (fun c34 => ?_) (fun c34 => ?_)
                          · have T := tt_f T c34
                            refine g_lload_n (q := 1) C dX5_sign_222 rfl rfl ?_
                            refine g_lload_n (q := 2) C dX5_sign_223 rfl rfl ?_
                            obtain ⟨g35, T⟩ := tt_gd T
                            refine g_ldiv C dX5_sign_224 (nz_of g35) ?_
                            exact g_lret C dX5_sign_225 (hR _ (tt_some T))
                          · have T := tt_t T c34
                            refine g_ldc2 (v := (-9223372036854775808)) C dX5_sign_216 kl_X5_48 ?_
                            refine g_goto (tgt := 225) C dX5_sign_219 (by decide) ?_
                            exact g_lret C dX5_sign_225 (hR _ (tt_some T))

theorem ok_f5_sign {l : Launch} {K : Int64 → Prop} (x0 : Int32) (x1 : Int64) (x3 : Int64) (h : Hp) (T : Tt (f5_sign x0 x1 x3) K) : Ok ΛC l yX5_sign cX5_sign 5 (some .long) rm_f5_sign [.int x0, .long x1, .long x3] h (PJs K h) :=
  Ok.of RX5 rfl (by decide) ⟨rfl, rfl⟩ (Nat.le_of_ble_eq_true rfl) (fun x C => k_f5_sign C x0 x1 x3 h (fun v q => ⟨v, rfl, rfl, q⟩) T)

abbrev rm_f5_worth : Room := { frames := 2, cells := 0, slots := 0, locals := 47 }
noncomputable def f5_worth_191 (x0 : Nat) (x4 : Int32) (h : Hp) : Option (Int64 × Hp) :=
  if x4 = 1 then (gd (inb 0 64) <| some (h.2.1 (x0 + 5) (ix 0), h)) else (some ((-9223372036854775808), h))
set_option maxRecDepth 100000 in
set_option maxHeartbeats 4000000 in
theorem k_f5_worth_191 {x : Mx} {l : Launch} {post0 : Option Value → Hp → Prop} (C : Cx ΛC x l RX5 cX5_worth rm_f5_worth (some .long) 9 post0) {K : Int64 × Hp → Prop} (x0 : Nat) (x4 : Int32) (kx0 : kdC x0 = 5) (h : Hp) (hR : ∀ (v : Int64) (h : Hp), K (v, h) → post0 (some (.long v)) h) (T : Tt (f5_worth_191 x0 x4 h) K) : G ΛC x 191 [(0, .ref x0), (4, .int x4)] [] h := by
  refine g_iload (q := 1) C dX5_worth_191 rfl ?_
  refine g_iconst (v := 1) C dX5_worth_193 (by decide) ?_
  refine g_icmp_ne (tgt := 206) C dX5_worth_194 (by decide) (fun c5 => ?_) (fun c5 => ?_)
  · have T := tt_f T c5
    refine g_ldc2 (v := (-9223372036854775808)) C dX5_worth_206 kl_X5_48 ?_
    exact g_lret C dX5_worth_209 (hR _ _ (tt_some T))
  · have T := tt_t T c5
    refine g_aload_n (q := 0) C dX5_worth_197 rfl rfl ?_
    refine g_getF (k := 4) (q := x0 + 5) C dX5_worth_198 (hpC kx0 rfl) kx0 fl_X5_24 rfl rfl ?_
    refine g_iconst (v := 0) C dX5_worth_201 (by decide) ?_
    obtain ⟨g6, T⟩ := tt_gd T
    refine g_lald C dX5_worth_202 (hpC (kf_5_4 kx0) rfl) (kf_5_4 kx0) (inb_of (lf_5_4 kx0) g6) ?_
    refine g_goto (tgt := 209) C dX5_worth_203 (by decide) ?_
    exact g_lret C dX5_worth_209 (hR _ _ (tt_some T))

noncomputable def f5_worth_185 (x0 : Nat) (x1 : Int32) (x2 : Nat) (x3 : Int32) (x4 : Int32) (x5 : Int32) (h : Hp) : Option ((Int32 × Int32 × Hp) ⊕ (Int64 × Hp)) :=
  some (.inl (x4, x5 + 1, h))
set_option maxRecDepth 100000 in
set_option maxHeartbeats 4000000 in
theorem k_f5_worth_185 {x : Mx} {l : Launch} {post0 : Option Value → Hp → Prop} (C : Cx ΛC x l RX5 cX5_worth rm_f5_worth (some .long) 9 post0) {K : (Int32 × Int32 × Hp) ⊕ (Int64 × Hp) → Prop} (x0 : Nat) (x1 : Int32) (x2 : Nat) (x3 : Int32) (x4 : Int32) (x5 : Int32) (kx0 : kdC x0 = 5) (kx2 : kdC x2 = 0) (h : Hp) (hR : ∀ (v : Int64) (h : Hp), K (.inr (v, h)) → post0 (some (.long v)) h) (hL11 : ∀ (x4 : Int32) (x5 : Int32) (h : Hp), K (.inl (x4, x5, h)) → G ΛC x 11 [(0, .ref x0), (1, .int x1), (2, .ref x2), (3, .int x3), (4, .int x4), (5, .int x5)] [] h) (T : Tt (f5_worth_185 x0 x1 x2 x3 x4 x5 h) K) : G ΛC x 185 [(0, .ref x0), (1, .int x1), (2, .ref x2), (3, .int x3), (4, .int x4), (5, .int x5)] [] h := by
  refine g_iinc (v := x5 + 1) (q := 5) (L' := [(5, .int (x5 + 1)), (0, .ref x0), (1, .int x1), (2, .ref x2), (3, .int x3), (4, .int x4)]) C dX5_worth_185 rfl (by first | rfl | exact congrArg _ (by decide)) (by decide) rfl ?_
  refine g_goto (tgt := 11) C dX5_worth_188 (by decide) ?_
  refine g_sub [1, 2, 3, 4, 5, 0] rfl ?_
  exact hL11 _ _ _ (tt_some T)

noncomputable def f5_worth_120 (x0 : Nat) (x1 : Int32) (x2 : Nat) (x3 : Int32) (x4 : Int32) (x5 : Int32) (x6 : Int32) (h : Hp) : Option ((Int32 × Int32 × Hp) ⊕ (Int64 × Hp)) :=
  if x4 ≤ 1 then (f5_worth_185 x0 x1 x2 x3 x4 x5 h) else (gd (inb ((x4 + (-1)) - 1) 64) <| gd (inb (x4 + (-1)) 64) <| (f5_sign x6 (h.2.1 (x0 + 5) (ix ((x4 + (-1)) - 1))) (h.2.1 (x0 + 5) (ix (x4 + (-1))))).bind fun r14 => if 0 < lg_cmp r14 1000000000000 then (some (.inr ((-9223372036854775808), h))) else (if 0 ≤ lg_cmp r14 (-1000000000000) then (gd (inb ((x4 + (-1)) - 1) 64) <| lt (wJ h (x0 + 5) (ix ((x4 + (-1)) - 1)) r14) fun h18 => f5_worth_185 x0 x1 x2 x3 (x4 + (-1)) x5 h18) else (some (.inr ((-9223372036854775808), h)))))
set_option maxRecDepth 100000 in
set_option maxHeartbeats 4000000 in
theorem k_f5_worth_120 {x : Mx} {l : Launch} {post0 : Option Value → Hp → Prop} (C : Cx ΛC x l RX5 cX5_worth rm_f5_worth (some .long) 9 post0) {K : (Int32 × Int32 × Hp) ⊕ (Int64 × Hp) → Prop} (x0 : Nat) (x1 : Int32) (x2 : Nat) (x3 : Int32) (x4 : Int32) (x5 : Int32) (x6 : Int32) (kx0 : kdC x0 = 5) (kx2 : kdC x2 = 0) (h : Hp) (hR : ∀ (v : Int64) (h : Hp), K (.inr (v, h)) → post0 (some (.long v)) h) (hL11 : ∀ (x4 : Int32) (x5 : Int32) (h : Hp), K (.inl (x4, x5, h)) → G ΛC x 11 [(0, .ref x0), (1, .int x1), (2, .ref x2), (3, .int x3), (4, .int x4), (5, .int x5)] [] h) (T : Tt (f5_worth_120 x0 x1 x2 x3 x4 x5 x6 h) K) : G ΛC x 120 [(0, .ref x0), (1, .int x1), (2, .ref x2), (3, .int x3), (4, .int x4), (5, .int x5), (6, .int x6)] [] h := by
  refine g_iload (q := 4) C dX5_worth_120 rfl ?_
  refine g_iconst (v := 1) C dX5_worth_122 (by decide) ?_
  refine g_icmp_le (tgt := 185) C dX5_worth_123 (by decide) (fun c11 => ?_) (fun c11 => ?_)
  · have T := tt_t T c11
    refine g_sub [0, 1, 2, 3, 4, 5] rfl ?_
    exact k_f5_worth_185 C x0 x1 x2 x3 x4 x5 kx0 kx2 h hR hL11 T
  · have T := tt_f T c11
    refine g_iinc (v := x4 + (-1)) (q := 4) (L' := [(4, .int (x4 + (-1))), (0, .ref x0), (1, .int x1), (2, .ref x2), (3, .int x3), (5, .int x5), (6, .int x6)]) C dX5_worth_126 rfl (by first | rfl | exact congrArg _ (by decide)) (by decide) rfl ?_
    refine g_iload (q := 6) C dX5_worth_129 rfl ?_
    refine g_aload_n (q := 1) C dX5_worth_131 rfl rfl ?_
    refine g_getF (k := 4) (q := x0 + 5) C dX5_worth_132 (hpC kx0 rfl) kx0 fl_X5_24 rfl rfl ?_
    refine g_iload (q := 0) C dX5_worth_135 rfl ?_
    refine g_iconst (v := 1) C dX5_worth_137 (by decide) ?_
    refine g_isub C dX5_worth_138 ?_
    obtain ⟨g12, T⟩ := tt_gd T
    refine g_lald C dX5_worth_139 (hpC (kf_5_4 kx0) rfl) (kf_5_4 kx0) (inb_of (lf_5_4 kx0) g12) ?_
    refine g_aload_n (q := 1) C dX5_worth_140 rfl rfl ?_
    refine g_getF (k := 4) (q := x0 + 5) C dX5_worth_141 (hpC kx0 rfl) kx0 fl_X5_24 rfl rfl ?_
    refine g_iload (q := 0) C dX5_worth_144 rfl ?_
    obtain ⟨g13, T⟩ := tt_gd T
    refine g_lald C dX5_worth_146 (hpC (kf_5_4 kx0) rfl) (kf_5_4 kx0) (inb_of (lf_5_4 kx0) g13) ?_
    refine g_callS (As := [.int x6, .long (h.2.1 (x0 + 5) (ix ((x4 + (-1)) - 1))), .long (h.2.1 (x0 + 5) (ix (x4 + (-1))))]) C dX5_worth_147 ml_X5_40 ys_f5_sign ⟨rfl, rfl⟩ ⟨Nat.le_of_ble_eq_true rfl, Nat.le_of_ble_eq_true rfl⟩ rfl rfl (Nat.le_of_ble_eq_true rfl) (ok_f5_sign x6 (h.2.1 (x0 + 5) (ix ((x4 + (-1)) - 1))) (h.2.1 (x0 + 5) (ix (x4 + (-1)))) h (tt_bind T)) ?_
    rintro _ _ ⟨r14, rfl, rfl, T⟩
    show G ΛC x 150 [(4, .int (x4 + (-1))), (0, .ref x0), (1, .int x1), (2, .ref x2), (3, .int x3), (5, .int x5), (6, .int x6)] [.long r14] h
    refine g_lstore (L' := [(7, .long r14), (4, .int (x4 + (-1))), (0, .ref x0), (1, .int x1), (2, .ref x2), (3, .int x3), (5, .int x5), (6, .int x6)]) C dX5_worth_150 (by decide) rfl ?_
    refine g_lload (q := 0) C dX5_worth_152 rfl ?_
    refine g_ldc2 (v := 1000000000000) C dX5_worth_154 kl_X5_44 ?_
    refine g_lcmp C dX5_worth_157 ?_
    refine g_if_gt (tgt := 170) C dX5_worth_158 (by decide) (fun c15 => ?_) (fun c15 => ?_)
    · have T := tt_t T c15
      refine g_ldc2 (v := (-9223372036854775808)) C dX5_worth_170 kl_X5_48 ?_
      exact g_lret C dX5_worth_173 (hR _ _ (tt_some T))
    · have T := tt_f T c15
      refine g_lload (q := 0) C dX5_worth_161 rfl ?_
      refine g_ldc2 (v := (-1000000000000)) C dX5_worth_163 kl_X5_46 ?_
      refine g_lcmp C dX5_worth_166 ?_
      refine g_if_ge (tgt := 174) C dX5_worth_167 (by decide) (fun c16 => ?_) (fun c16 => ?_)
      · have T := tt_t T c16
        refine g_aload_n (q := 2) C dX5_worth_174 rfl rfl ?_
        refine g_getF (k := 4) (q := x0 + 5) C dX5_worth_175 (hpC kx0 rfl) kx0 fl_X5_24 rfl rfl ?_
        refine g_iload (q := 1) C dX5_worth_178 rfl ?_
        refine g_iconst (v := 1) C dX5_worth_180 (by decide) ?_
        refine g_isub C dX5_worth_181 ?_
        refine g_lload (q := 0) C dX5_worth_182 rfl ?_
        obtain ⟨g17, T⟩ := tt_gd T
        obtain ⟨h18, eh18, T⟩ := tt_lt T
        refine g_last C dX5_worth_184 (hpC (kf_5_4 kx0) rfl) (kf_5_4 kx0) (inb_of (lf_5_4 kx0) g17) eh18 ?_
        refine g_sub [2, 3, 4, 5, 1, 6] rfl ?_
        exact k_f5_worth_185 C x0 x1 x2 x3 (x4 + (-1)) x5 kx0 kx2 h18 hR hL11 T
      · have T := tt_f T c16
        refine g_ldc2 (v := (-9223372036854775808)) C dX5_worth_170 kl_X5_48 ?_
        exact g_lret C dX5_worth_173 (hR _ _ (tt_some T))

noncomputable def f5_worth_113 (x0 : Nat) (x1 : Int32) (x2 : Nat) (x3 : Int32) (x4 : Int32) (x5 : Int32) (s0 : Int32) (s1 : Int32) (s2 : Nat) (h : Hp) : Option ((Int32 × Int32 × Hp) ⊕ (Int64 × Hp)) :=
  (f5_truth s0).bind fun r22 => gd (inb s1 (lnC s2)) <| lt (wJ h s2 (ix s1) r22) fun h24 => f5_worth_185 x0 x1 x2 x3 x4 x5 h24
set_option maxRecDepth 100000 in
set_option maxHeartbeats 4000000 in
theorem k_f5_worth_113 {x : Mx} {l : Launch} {post0 : Option Value → Hp → Prop} (C : Cx ΛC x l RX5 cX5_worth rm_f5_worth (some .long) 9 post0) {K : (Int32 × Int32 × Hp) ⊕ (Int64 × Hp) → Prop} (x0 : Nat) (x1 : Int32) (x2 : Nat) (x3 : Int32) (x4 : Int32) (x5 : Int32) (s0 : Int32) (s1 : Int32) (s2 : Nat) (kx0 : kdC x0 = 5) (kx2 : kdC x2 = 0) (ks2 : kdC s2 = 15) (h : Hp) (hR : ∀ (v : Int64) (h : Hp), K (.inr (v, h)) → post0 (some (.long v)) h) (hL11 : ∀ (x4 : Int32) (x5 : Int32) (h : Hp), K (.inl (x4, x5, h)) → G ΛC x 11 [(0, .ref x0), (1, .int x1), (2, .ref x2), (3, .int x3), (4, .int x4), (5, .int x5)] [] h) (T : Tt (f5_worth_113 x0 x1 x2 x3 x4 x5 s0 s1 s2 h) K) : G ΛC x 113 [(0, .ref x0), (1, .int x1), (2, .ref x2), (3, .int x3), (4, .int x4), (5, .int x5)] [.int s0, .int s1, .ref s2] h := by
  refine g_callS (As := [.int s0]) C dX5_worth_113 ml_X5_36 ys_f5_truth ⟨rfl, rfl⟩ ⟨Nat.le_of_ble_eq_true rfl, Nat.le_of_ble_eq_true rfl⟩ rfl rfl (Nat.le_of_ble_eq_true rfl) (ok_f5_truth s0 h (tt_bind T)) ?_
  rintro _ _ ⟨r22, rfl, rfl, T⟩
  show G ΛC x 116 [(0, .ref x0), (1, .int x1), (2, .ref x2), (3, .int x3), (4, .int x4), (5, .int x5)] [.long r22, .int s1, .ref s2] h
  obtain ⟨g23, T⟩ := tt_gd T
  obtain ⟨h24, eh24, T⟩ := tt_lt T
  refine g_last C dX5_worth_116 (hpC ks2 rfl) ks2 (inb_of rfl g23) eh24 ?_
  refine g_goto (tgt := 185) C dX5_worth_117 (by decide) ?_
  exact k_f5_worth_185 C x0 x1 x2 x3 x4 x5 kx0 kx2 h24 hR hL11 T

noncomputable def f5_worth_67 (x0 : Nat) (x1 : Int32) (x2 : Nat) (x3 : Int32) (x4 : Int32) (x5 : Int32) (s0 : Int64) (s1 : Int32) (s2 : Nat) (h : Hp) : Option ((Int32 × Int32 × Hp) ⊕ (Int64 × Hp)) :=
  gd (inb s1 (lnC s2)) <| lt (wJ h s2 (ix s1) s0) fun h28 => f5_worth_185 x0 x1 x2 x3 (x4 + 1) x5 h28
set_option maxRecDepth 100000 in
set_option maxHeartbeats 4000000 in
theorem k_f5_worth_67 {x : Mx} {l : Launch} {post0 : Option Value → Hp → Prop} (C : Cx ΛC x l RX5 cX5_worth rm_f5_worth (some .long) 9 post0) {K : (Int32 × Int32 × Hp) ⊕ (Int64 × Hp) → Prop} (x0 : Nat) (x1 : Int32) (x2 : Nat) (x3 : Int32) (x4 : Int32) (x5 : Int32) (s0 : Int64) (s1 : Int32) (s2 : Nat) (kx0 : kdC x0 = 5) (kx2 : kdC x2 = 0) (ks2 : kdC s2 = 15) (h : Hp) (hR : ∀ (v : Int64) (h : Hp), K (.inr (v, h)) → post0 (some (.long v)) h) (hL11 : ∀ (x4 : Int32) (x5 : Int32) (h : Hp), K (.inl (x4, x5, h)) → G ΛC x 11 [(0, .ref x0), (1, .int x1), (2, .ref x2), (3, .int x3), (4, .int x4), (5, .int x5)] [] h) (T : Tt (f5_worth_67 x0 x1 x2 x3 x4 x5 s0 s1 s2 h) K) : G ΛC x 67 [(0, .ref x0), (1, .int x1), (2, .ref x2), (3, .int x3), (4, .int x4), (5, .int x5)] [.long s0, .int s1, .ref s2] h := by
  obtain ⟨g27, T⟩ := tt_gd T
  obtain ⟨h28, eh28, T⟩ := tt_lt T
  refine g_last C dX5_worth_67 (hpC ks2 rfl) ks2 (inb_of rfl g27) eh28 ?_
  refine g_iinc (v := x4 + 1) (q := 4) (L' := [(4, .int (x4 + 1)), (0, .ref x0), (1, .int x1), (2, .ref x2), (3, .int x3), (5, .int x5)]) C dX5_worth_68 rfl (by first | rfl | exact congrArg _ (by decide)) (by decide) rfl ?_
  refine g_goto (tgt := 185) C dX5_worth_71 (by decide) ?_
  refine g_sub [1, 2, 3, 4, 0, 5] rfl ?_
  exact k_f5_worth_185 C x0 x1 x2 x3 (x4 + 1) x5 kx0 kx2 h28 hR hL11 T

noncomputable def f5_worth_11_s (x0 : Nat) (x1 : Int32) (x2 : Nat) (x3 : Int32) (x4 : Int32) (x5 : Int32) (h : Hp) : Option ((Int32 × Int32 × Hp) ⊕ (Int64 × Hp)) :=
  gd (inb x1 3) <| if h.1 (x0 + 4) (ix x1) ≤ x5 then ((f5_worth_191 x0 x4 h).map (fun z => .inr (z))) else (gd (inb x5 64) <| lt (h.1 (x0 + 1) (ix x5)) fun v8 => if 7 < v8 then (if v8 = 10 then (if x4 ≤ 0 then (f5_worth_120 x0 x1 x2 x3 x4 x5 v8 h) else (gd (inb (x4 - 1) 64) <| if lg_cmp (h.2.1 (x0 + 5) (ix (x4 - 1))) 0 = 0 then (f5_worth_113 x0 x1 x2 x3 x4 x5 1 (x4 - 1) (x0 + 5) h) else (f5_worth_113 x0 x1 x2 x3 x4 x5 0 (x4 - 1) (x0 + 5) h))) else (f5_worth_120 x0 x1 x2 x3 x4 x5 v8 h)) else (if v8 = 0 then (gd (inb x5 64) <| f5_worth_67 x0 x1 x2 x3 x4 x5 ((h.1 (x0 + 2) (ix x5)).toInt64) x4 (x0 + 5) h) else ((f5_nameOf v8 x2 x3 h).bind fun r26 => f5_worth_67 x0 x1 x2 x3 x4 x5 r26 x4 (x0 + 5) h)))
set_option maxRecDepth 100000 in
set_option maxHeartbeats 4000000 in
theorem k_f5_worth_11_s {x : Mx} {l : Launch} {post0 : Option Value → Hp → Prop} (C : Cx ΛC x l RX5 cX5_worth rm_f5_worth (some .long) 9 post0) {K : (Int32 × Int32 × Hp) ⊕ (Int64 × Hp) → Prop} (x0 : Nat) (x1 : Int32) (x2 : Nat) (x3 : Int32) (x4 : Int32) (x5 : Int32) (kx0 : kdC x0 = 5) (kx2 : kdC x2 = 0) (h : Hp) (hR : ∀ (v : Int64) (h : Hp), K (.inr (v, h)) → post0 (some (.long v)) h) (hL11 : ∀ (x4 : Int32) (x5 : Int32) (h : Hp), K (.inl (x4, x5, h)) → G ΛC x 11 [(0, .ref x0), (1, .int x1), (2, .ref x2), (3, .int x3), (4, .int x4), (5, .int x5)] [] h) (T : Tt (f5_worth_11_s x0 x1 x2 x3 x4 x5 h) K) : G ΛC x 11 [(0, .ref x0), (1, .int x1), (2, .ref x2), (3, .int x3), (4, .int x4), (5, .int x5)] [] h := by
  refine g_iload (q := 5) C dX5_worth_11 rfl ?_
  refine g_aload_n (q := 0) C dX5_worth_13 rfl rfl ?_
  refine g_getF (k := 3) (q := x0 + 4) C dX5_worth_14 (hpC kx0 rfl) kx0 fl_X5_21 rfl rfl ?_
  refine g_iload_n (q := 1) C dX5_worth_17 rfl rfl ?_
  obtain ⟨g3, T⟩ := tt_gd T
  refine g_iald C dX5_worth_18 (hpC (kf_5_3 kx0) rfl) (kf_5_3 kx0) (inb_of (lf_5_3 kx0) g3) ?_
  refine g_icmp_ge (tgt := 191) C dX5_worth_19 (by decide) (fun c4 => ?_) (fun c4 => ?_)
  · have T := tt_t T c4
    refine g_sub [0, 4] rfl ?_
    exact k_f5_worth_191 C x0 x4 kx0 h hR (tt_map T)
  · have T := tt_f T c4
    refine g_aload_n (q := 0) C dX5_worth_22 rfl rfl ?_
    refine g_getF (k := 0) (q := x0 + 1) C dX5_worth_23 (hpC kx0 rfl) kx0 fl_X5_9 rfl rfl ?_
    refine g_iload (q := 5) C dX5_worth_26 rfl ?_
    obtain ⟨g7, T⟩ := tt_gd T
    refine g_iald C dX5_worth_28 (hpC (kf_5_0 kx0) rfl) (kf_5_0 kx0) (inb_of (lf_5_0 kx0) g7) ?_
    obtain ⟨v8, ev8, T⟩ := tt_lt T
    refine g_nameI ev8 ?_
    refine g_istore (L' := [(6, .int v8), (0, .ref x0), (1, .int x1), (2, .ref x2), (3, .int x3), (4, .int x4), (5, .int x5)]) C dX5_worth_29 (by decide) rfl ?_
    refine g_iload (q := 0) C dX5_worth_31 rfl ?_
    refine g_bipush (v := 7) C dX5_worth_33 (by decide) ?_
    refine g_icmp_gt (tgt := 74) C dX5_worth_35 (by decide) (fun c9 => ?_) (fun c9 => ?_)
    · have T := tt_t T c9
      refine g_iload (q := 0) C dX5_worth_74 rfl ?_
      refine g_bipush (v := 10) C dX5_worth_76 (by decide) ?_
      refine g_icmp_ne (tgt := 120) C dX5_worth_78 (by decide) (fun c10 => ?_) (fun c10 => ?_)
      · have T := tt_f T c10
        refine g_sub [1, 2, 3, 4, 5, 6, 0] rfl ?_
        exact k_f5_worth_120 C x0 x1 x2 x3 x4 x5 v8 kx0 kx2 h hR hL11 T
      · have T := tt_t T c10
        refine g_iload (q := 5) C dX5_worth_81 rfl ?_
        refine g_if_le (tgt := 120) C dX5_worth_83 (by decide) (fun c19 => ?_) (fun c19 => ?_)
        · have T := tt_t T c19
          refine g_sub [1, 2, 3, 4, 5, 6, 0] rfl ?_
          exact k_f5_worth_120 C x0 x1 x2 x3 x4 x5 v8 kx0 kx2 h hR hL11 T
        · have T := tt_f T c19
          refine g_aload_n (q := 1) C dX5_worth_86 rfl rfl ?_
          refine g_getF (k := 4) (q := x0 + 5) C dX5_worth_87 (hpC kx0 rfl) kx0 fl_X5_24 rfl rfl ?_
          refine g_iload (q := 5) C dX5_worth_90 rfl ?_
          refine g_iconst (v := 1) C dX5_worth_92 (by decide) ?_
          refine g_isub C dX5_worth_93 ?_
          refine g_aload_n (q := 1) C dX5_worth_94 rfl rfl ?_
          refine g_getF (k := 4) (q := x0 + 5) C dX5_worth_95 (hpC kx0 rfl) kx0 fl_X5_24 rfl rfl ?_
          refine g_iload (q := 5) C dX5_worth_98 rfl ?_
          refine g_iconst (v := 1) C dX5_worth_100 (by decide) ?_
          refine g_isub C dX5_worth_101 ?_
          obtain ⟨g20, T⟩ := tt_gd T
          refine g_lald C dX5_worth_102 (hpC (kf_5_4 kx0) rfl) (kf_5_4 kx0) (inb_of (lf_5_4 kx0) g20) ?_
          refine g_lconst (v := 0) C dX5_worth_103 (by decide) ?_
          refine g_lcmp C dX5_worth_104 ?_
          refine g_if_ne (tgt := 112) C dX5_worth_105 (by decide) (fun c21 => ?_) (fun c21 => ?_)
          · have T := tt_f T c21
            refine g_iconst (v := 0) C dX5_worth_112 (by decide) ?_
            refine g_sub [1, 2, 3, 4, 5, 6] rfl ?_
            exact k_f5_worth_113 C x0 x1 x2 x3 x4 x5 0 (x4 - 1) (x0 + 5) kx0 kx2 (kf_5_4 kx0) h hR hL11 T
          · have T := tt_t T c21
            refine g_iconst (v := 1) C dX5_worth_108 (by decide) ?_
            refine g_goto (tgt := 113) C dX5_worth_109 (by decide) ?_
            refine g_sub [1, 2, 3, 4, 5, 6] rfl ?_
            exact k_f5_worth_113 C x0 x1 x2 x3 x4 x5 1 (x4 - 1) (x0 + 5) kx0 kx2 (kf_5_4 kx0) h hR hL11 T
    · have T := tt_f T c9
      refine g_aload_n (q := 1) C dX5_worth_38 rfl rfl ?_
      refine g_getF (k := 4) (q := x0 + 5) C dX5_worth_39 (hpC kx0 rfl) kx0 fl_X5_24 rfl rfl ?_
      refine g_iload (q := 5) C dX5_worth_42 rfl ?_
      refine g_iload (q := 0) C dX5_worth_44 rfl ?_
      refine g_if_ne (tgt := 60) C dX5_worth_46 (by decide) (fun c25 => ?_) (fun c25 => ?_)
      · have T := tt_f T c25
        refine g_iload (q := 0) C dX5_worth_60 rfl ?_
        refine g_aload_n (q := 3) C dX5_worth_62 rfl rfl ?_
        refine g_iload_n (q := 4) C dX5_worth_63 rfl rfl ?_
        refine g_callS (As := [.int v8, .ref x2, .int x3]) C dX5_worth_64 ml_X5_32 ys_f5_nameOf ⟨rfl, rfl⟩ ⟨Nat.le_of_ble_eq_true rfl, Nat.le_of_ble_eq_true rfl⟩ rfl rfl (Nat.le_of_ble_eq_true rfl) (ok_f5_nameOf v8 x2 x3 kx2 h (tt_bind T)) ?_
        rintro _ _ ⟨r26, rfl, rfl, T⟩
        show G ΛC x 67 [(6, .int v8), (0, .ref x0), (1, .int x1), (2, .ref x2), (3, .int x3), (4, .int x4), (5, .int x5)] [.long r26, .int x4, .ref (x0 + 5)] h
        refine g_sub [1, 2, 3, 4, 5, 6] rfl ?_
        exact k_f5_worth_67 C x0 x1 x2 x3 x4 x5 r26 x4 (x0 + 5) kx0 kx2 (kf_5_4 kx0) h hR hL11 T
      · have T := tt_t T c25
        refine g_aload_n (q := 1) C dX5_worth_49 rfl rfl ?_
        refine g_getF (k := 1) (q := x0 + 2) C dX5_worth_50 (hpC kx0 rfl) kx0 fl_X5_15 rfl rfl ?_
        refine g_iload (q := 6) C dX5_worth_53 rfl ?_
        obtain ⟨g29, T⟩ := tt_gd T
        refine g_iald C dX5_worth_55 (hpC (kf_5_1 kx0) rfl) (kf_5_1 kx0) (inb_of (lf_5_1 kx0) g29) ?_
        refine g_i2l C dX5_worth_56 ?_
        refine g_goto (tgt := 67) C dX5_worth_57 (by decide) ?_
        refine g_sub [1, 2, 3, 4, 5, 6] rfl ?_
        exact k_f5_worth_67 C x0 x1 x2 x3 x4 x5 ((h.1 (x0 + 2) (ix x5)).toInt64) x4 (x0 + 5) kx0 kx2 (kf_5_4 kx0) h hR hL11 T

noncomputable def f5_worth_11 (x0 : Nat) (x1 : Int32) (x2 : Nat) (x3 : Int32) (x4 : Int32) (x5 : Int32) (h : Hp) : Option (Int64 × Hp) := lp (fun z : Int32 × Int32 × Hp => f5_worth_11_s x0 x1 x2 x3 z.1 z.2.1 z.2.2) (x4, x5, h)
theorem k_f5_worth_11 {x : Mx} {l : Launch} {post0 : Option Value → Hp → Prop} (C : Cx ΛC x l RX5 cX5_worth rm_f5_worth (some .long) 9 post0) {K : Int64 × Hp → Prop} (x0 : Nat) (x1 : Int32) (x2 : Nat) (x3 : Int32) (x4 : Int32) (x5 : Int32) (kx0 : kdC x0 = 5) (kx2 : kdC x2 = 0) (h : Hp) (hR : ∀ (v : Int64) (h : Hp), K (v, h) → post0 (some (.long v)) h) (T : Tt (f5_worth_11 x0 x1 x2 x3 x4 x5 h) K) : G ΛC x 11 [(0, .ref x0), (1, .int x1), (2, .ref x2), (3, .int x3), (4, .int x4), (5, .int x5)] [] h :=
  lp_ind (f := fun z : Int32 × Int32 × Hp => f5_worth_11_s x0 x1 x2 x3 z.1 z.2.1 z.2.2) (P := fun z : Int32 × Int32 × Hp => G ΛC x 11 [(0, .ref x0), (1, .int x1), (2, .ref x2), (3, .int x3), (4, .int z.1), (5, .int z.2.1)] [] z.2.2) (K := K) (fun z T => k_f5_worth_11_s C (K := KS (fun z : Int32 × Int32 × Hp => G ΛC x 11 [(0, .ref x0), (1, .int x1), (2, .ref x2), (3, .int x3), (4, .int z.1), (5, .int z.2.1)] [] z.2.2) K) x0 x1 x2 x3 z.1 z.2.1 kx0 kx2 z.2.2 hR (fun _ _ _ q => q) T) (x4, x5, h) T
noncomputable def f5_worth (x0 : Nat) (x1 : Int32) (x2 : Nat) (x3 : Int32) (h : Hp) : Option (Int64 × Hp) :=
  gd (inb x1 3) <| lt (h.1 (x0 + 3) (ix x1)) fun v2 => f5_worth_11 x0 x1 x2 x3 0 v2 h
set_option maxRecDepth 100000 in
set_option maxHeartbeats 4000000 in
theorem k_f5_worth {x : Mx} {l : Launch} {post0 : Option Value → Hp → Prop} (C : Cx ΛC x l RX5 cX5_worth rm_f5_worth (some .long) 9 post0) {K : Int64 × Hp → Prop} (x0 : Nat) (x1 : Int32) (x2 : Nat) (x3 : Int32) (kx0 : kdC x0 = 5) (kx2 : kdC x2 = 0) (h : Hp) (hR : ∀ (v : Int64) (h : Hp), K (v, h) → post0 (some (.long v)) h) (T : Tt (f5_worth x0 x1 x2 x3 h) K) : G ΛC x 0 [(0, .ref x0), (1, .int x1), (2, .ref x2), (3, .int x3)] [] h := by
  refine g_iconst (v := 0) C dX5_worth_0 (by decide) ?_
  refine g_istore (L' := [(4, .int 0), (0, .ref x0), (1, .int x1), (2, .ref x2), (3, .int x3)]) C dX5_worth_1 (by decide) rfl ?_
  refine g_aload_n (q := 1) C dX5_worth_3 rfl rfl ?_
  refine g_getF (k := 2) (q := x0 + 3) C dX5_worth_4 (hpC kx0 rfl) kx0 fl_X5_18 rfl rfl ?_
  refine g_iload_n (q := 2) C dX5_worth_7 rfl rfl ?_
  obtain ⟨g1, T⟩ := tt_gd T
  refine g_iald C dX5_worth_8 (hpC (kf_5_2 kx0) rfl) (kf_5_2 kx0) (inb_of (lf_5_2 kx0) g1) ?_
  obtain ⟨v2, ev2, T⟩ := tt_lt T
  refine g_nameI ev2 ?_
  refine g_istore (L' := [(5, .int v2), (4, .int 0), (0, .ref x0), (1, .int x1), (2, .ref x2), (3, .int x3)]) C dX5_worth_9 (by decide) rfl ?_
  refine g_sub [2, 3, 4, 5, 1, 0] rfl ?_
  exact k_f5_worth_11 C x0 x1 x2 x3 0 v2 kx0 kx2 h hR T

theorem ok_f5_worth {l : Launch} {K : Int64 × Hp → Prop} (x0 : Nat) (x1 : Int32) (x2 : Nat) (x3 : Int32) (kx0 : kdC x0 = 5) (kx2 : kdC x2 = 0) (h : Hp) (T : Tt (f5_worth x0 x1 x2 x3 h) K) : Ok ΛC l yX5_worth cX5_worth 9 (some .long) rm_f5_worth [.ref x0, .int x1, .ref x2, .int x3] h (PJw K) :=
  Ok.of RX5 rfl (by decide) ⟨rfl, rfl⟩ (Nat.le_of_ble_eq_true rfl) (fun x C => k_f5_worth C x0 x1 x2 x3 kx0 kx2 h (fun v _ q => ⟨v, rfl, q⟩) T)

abbrev rm_f1_dropEarliest : Room := { frames := 0, cells := 0, slots := 0, locals := 0 }
noncomputable def f1_dropEarliest_12_s (x1 : Int32) (h : Hp) : Option ((Int32 × Hp) ⊕ (Hp)) :=
  if h.1 34 4 ≤ x1 then (some (.inr (h))) else (gd (inb (x1 + 1) 20) <| gd (inb x1 20) <| lt (wI h 35 (ix x1) (h.1 35 (ix (x1 + 1)))) fun h5 => gd (inb (x1 + 1) 20) <| gd (inb x1 20) <| lt (wI h5 36 (ix x1) (h5.1 36 (ix (x1 + 1)))) fun h8 => gd (inb (x1 + 1) 20) <| gd (inb x1 20) <| lt (wI h8 37 (ix x1) (h8.1 37 (ix (x1 + 1)))) fun h11 => gd (inb (x1 + 1) 20) <| gd (inb x1 20) <| gd (bz (h11.1 38 (ix (x1 + 1)))) <| lt (wI h11 38 (ix x1) (h11.1 38 (ix (x1 + 1)))) fun h15 => some (.inl (x1 + 1, h15)))
set_option maxRecDepth 100000 in
set_option maxHeartbeats 4000000 in
theorem k_f1_dropEarliest_12_s {x : Mx} {l : Launch} {post0 : Option Value → Hp → Prop} (C : Cx ΛC x l RX1 cX1_dropEarliest rm_f1_dropEarliest none 2 post0) {K : (Int32 × Hp) ⊕ (Hp) → Prop} (x1 : Int32) (h : Hp) (hR : ∀ h : Hp, K (.inr h) → post0 none h) (hL12 : ∀ (x1 : Int32) (h : Hp), K (.inl (x1, h)) → G ΛC x 12 [(0, .ref 34), (1, .int x1)] [] h) (T : Tt (f1_dropEarliest_12_s x1 h) K) : G ΛC x 12 [(0, .ref 34), (1, .int x1)] [] h := by
  refine g_iload_n (q := 1) C dX1_dropEarliest_12 rfl rfl ?_
  refine g_aload_n (q := 0) C dX1_dropEarliest_13 rfl rfl ?_
  refine g_getI (k := 4) C dX1_dropEarliest_14 (hpC rfl rfl) rfl fl_X1_25 rfl ?_
  refine g_icmp_ge (tgt := 82) C dX1_dropEarliest_17 (by decide) (fun c2 => ?_) (fun c2 => ?_)
  · have T := tt_t T c2
    exact g_vret C dX1_dropEarliest_82 (hR _ (tt_some T))
  · have T := tt_f T c2
    refine g_aload_n (q := 0) C dX1_dropEarliest_20 rfl rfl ?_
    refine g_getF (k := 0) (q := 35) C dX1_dropEarliest_21 (hpC rfl rfl) rfl fl_X1_9 rfl rfl ?_
    refine g_iload_n (q := 1) C dX1_dropEarliest_24 rfl rfl ?_
    refine g_aload_n (q := 0) C dX1_dropEarliest_25 rfl rfl ?_
    refine g_getF (k := 0) (q := 35) C dX1_dropEarliest_26 (hpC rfl rfl) rfl fl_X1_9 rfl rfl ?_
    refine g_iload_n (q := 1) C dX1_dropEarliest_29 rfl rfl ?_
    refine g_iconst (v := 1) C dX1_dropEarliest_30 (by decide) ?_
    refine g_iadd C dX1_dropEarliest_31 ?_
    obtain ⟨g3, T⟩ := tt_gd T
    refine g_iald C dX1_dropEarliest_32 (hpC rfl rfl) rfl (inb_of rfl g3) ?_
    obtain ⟨g4, T⟩ := tt_gd T
    obtain ⟨h5, eh5, T⟩ := tt_lt T
    refine g_iast C dX1_dropEarliest_33 (hpC rfl rfl) rfl (inb_of rfl g4) eh5 ?_
    refine g_aload_n (q := 0) C dX1_dropEarliest_34 rfl rfl ?_
    refine g_getF (k := 1) (q := 36) C dX1_dropEarliest_35 (hpC rfl rfl) rfl fl_X1_15 rfl rfl ?_
    refine g_iload_n (q := 1) C dX1_dropEarliest_38 rfl rfl ?_
    refine g_aload_n (q := 0) C dX1_dropEarliest_39 rfl rfl ?_
    refine g_getF (k := 1) (q := 36) C dX1_dropEarliest_40 (hpC rfl rfl) rfl fl_X1_15 rfl rfl ?_
    refine g_iload_n (q := 1) C dX1_dropEarliest_43 rfl rfl ?_
    refine g_iconst (v := 1) C dX1_dropEarliest_44 (by decide) ?_
    refine g_iadd C dX1_dropEarliest_45 ?_
    obtain ⟨g6, T⟩ := tt_gd T
    refine g_iald C dX1_dropEarliest_46 (hpC rfl rfl) rfl (inb_of rfl g6) ?_
    obtain ⟨g7, T⟩ := tt_gd T
    obtain ⟨h8, eh8, T⟩ := tt_lt T
    refine g_iast C dX1_dropEarliest_47 (hpC rfl rfl) rfl (inb_of rfl g7) eh8 ?_
    refine g_aload_n (q := 0) C dX1_dropEarliest_48 rfl rfl ?_
    refine g_getF (k := 2) (q := 37) C dX1_dropEarliest_49 (hpC rfl rfl) rfl fl_X1_18 rfl rfl ?_
    refine g_iload_n (q := 1) C dX1_dropEarliest_52 rfl rfl ?_
    refine g_aload_n (q := 0) C dX1_dropEarliest_53 rfl rfl ?_
    refine g_getF (k := 2) (q := 37) C dX1_dropEarliest_54 (hpC rfl rfl) rfl fl_X1_18 rfl rfl ?_
    refine g_iload_n (q := 1) C dX1_dropEarliest_57 rfl rfl ?_
    refine g_iconst (v := 1) C dX1_dropEarliest_58 (by decide) ?_
    refine g_iadd C dX1_dropEarliest_59 ?_
    obtain ⟨g9, T⟩ := tt_gd T
    refine g_iald C dX1_dropEarliest_60 (hpC rfl rfl) rfl (inb_of rfl g9) ?_
    obtain ⟨g10, T⟩ := tt_gd T
    obtain ⟨h11, eh11, T⟩ := tt_lt T
    refine g_iast C dX1_dropEarliest_61 (hpC rfl rfl) rfl (inb_of rfl g10) eh11 ?_
    refine g_aload_n (q := 0) C dX1_dropEarliest_62 rfl rfl ?_
    refine g_getF (k := 3) (q := 38) C dX1_dropEarliest_63 (hpC rfl rfl) rfl fl_X1_21 rfl rfl ?_
    refine g_iload_n (q := 1) C dX1_dropEarliest_66 rfl rfl ?_
    refine g_aload_n (q := 0) C dX1_dropEarliest_67 rfl rfl ?_
    refine g_getF (k := 3) (q := 38) C dX1_dropEarliest_68 (hpC rfl rfl) rfl fl_X1_21 rfl rfl ?_
    refine g_iload_n (q := 1) C dX1_dropEarliest_71 rfl rfl ?_
    refine g_iconst (v := 1) C dX1_dropEarliest_72 (by decide) ?_
    refine g_iadd C dX1_dropEarliest_73 ?_
    obtain ⟨g12, T⟩ := tt_gd T
    refine g_zald C dX1_dropEarliest_74 (hpC rfl rfl) rfl (inb_of rfl g12) ?_
    obtain ⟨g13, T⟩ := tt_gd T
    obtain ⟨g14, T⟩ := tt_gd T
    obtain ⟨h15, eh15, T⟩ := tt_lt T
    refine g_zast C dX1_dropEarliest_75 (hpC rfl rfl) rfl (inb_of rfl g13) (bz_or g14) eh15 ?_
    refine g_iinc (v := x1 + 1) (q := 1) (L' := [(1, .int (x1 + 1)), (0, .ref 34)]) C dX1_dropEarliest_76 rfl (by first | rfl | exact congrArg _ (by decide)) (by decide) rfl ?_
    refine g_goto (tgt := 12) C dX1_dropEarliest_79 (by decide) ?_
    refine g_sub [1, 0] rfl ?_
    exact hL12 _ _ (tt_some T)

noncomputable def f1_dropEarliest_12 (x1 : Int32) (h : Hp) : Option (Hp) := lp (fun z : Int32 × Hp => f1_dropEarliest_12_s z.1 z.2) (x1, h)
theorem k_f1_dropEarliest_12 {x : Mx} {l : Launch} {post0 : Option Value → Hp → Prop} (C : Cx ΛC x l RX1 cX1_dropEarliest rm_f1_dropEarliest none 2 post0) {K : Hp → Prop} (x1 : Int32) (h : Hp) (hR : ∀ h : Hp, K h → post0 none h) (T : Tt (f1_dropEarliest_12 x1 h) K) : G ΛC x 12 [(0, .ref 34), (1, .int x1)] [] h :=
  lp_ind (f := fun z : Int32 × Hp => f1_dropEarliest_12_s z.1 z.2) (P := fun z : Int32 × Hp => G ΛC x 12 [(0, .ref 34), (1, .int z.1)] [] z.2) (K := K) (fun z T => k_f1_dropEarliest_12_s C (K := KS (fun z : Int32 × Hp => G ΛC x 12 [(0, .ref 34), (1, .int z.1)] [] z.2) K) z.1 z.2 hR (fun _ _ q => q) T) (x1, h) T
noncomputable def f1_dropEarliest (h : Hp) : Option (Hp) :=
  lt (wI h 34 4 ((h.1 34 4) - 1)) fun h1 => f1_dropEarliest_12 0 h1
set_option maxRecDepth 100000 in
set_option maxHeartbeats 4000000 in
theorem k_f1_dropEarliest {x : Mx} {l : Launch} {post0 : Option Value → Hp → Prop} (C : Cx ΛC x l RX1 cX1_dropEarliest rm_f1_dropEarliest none 2 post0) {K : Hp → Prop} (h : Hp) (hR : ∀ h : Hp, K h → post0 none h) (T : Tt (f1_dropEarliest h) K) : G ΛC x 0 [(0, .ref 34)] [] h := by
  refine g_aload_n (q := 0) C dX1_dropEarliest_0 rfl rfl ?_
  refine g_dup C dX1_dropEarliest_1 rfl ?_
  refine g_getI (k := 4) C dX1_dropEarliest_2 (hpC rfl rfl) rfl fl_X1_25 rfl ?_
  refine g_iconst (v := 1) C dX1_dropEarliest_5 (by decide) ?_
  refine g_isub C dX1_dropEarliest_6 ?_
  obtain ⟨h1, eh1, T⟩ := tt_lt T
  refine g_putI (k := 4) C dX1_dropEarliest_7 (hpC rfl rfl) rfl fp_X1_25 rfl eh1 ?_
  refine g_iconst (v := 0) C dX1_dropEarliest_10 (by decide) ?_
  refine g_istore_n (L' := [(1, .int 0), (0, .ref 34)]) C dX1_dropEarliest_11 rfl (by decide) rfl ?_
  refine g_sub [1, 0] rfl ?_
  exact k_f1_dropEarliest_12 C 0 h1 hR T

theorem ok_f1_dropEarliest {l : Launch} {K : Hp → Prop} (h : Hp) (T : Tt (f1_dropEarliest h) K) : Ok ΛC l yX1_dropEarliest cX1_dropEarliest 2 none rm_f1_dropEarliest [.ref 34] h (PVw K) :=
  Ok.of RX1 rfl (by decide) ⟨rfl, rfl⟩ (Nat.le_of_ble_eq_true rfl) (fun x C => k_f1_dropEarliest C h (fun _ q => ⟨rfl, q⟩) T)

abbrev rm_f1_note : Room := { frames := 1, cells := 0, slots := 0, locals := 21 }
noncomputable def f1_note_13 (x1 : Int32) (x2 : Nat) (h : Hp) : Option (Hp) :=
  gd (inb (h.1 34 4) 20) <| lt (wI h 35 (ix (h.1 34 4)) x1) fun h3 => gd (inb (h3.1 34 4) 20) <| lt (wI h3 36 (ix (h3.1 34 4)) (h3.1 x2 5)) fun h5 => gd (inb (h5.1 34 4) 20) <| lt (wI h5 37 (ix (h5.1 34 4)) (h5.1 x2 9)) fun h7 => gd (inb (h7.1 34 4) 20) <| gd (bz (h7.1 x2 10)) <| lt (wI h7 38 (ix (h7.1 34 4)) (h7.1 x2 10)) fun h10 => lt (wI h10 34 4 ((h10.1 34 4) + 1)) fun h11 => some (h11)
set_option maxRecDepth 100000 in
set_option maxHeartbeats 4000000 in
theorem k_f1_note_13 {x : Mx} {l : Launch} {post0 : Option Value → Hp → Prop} (C : Cx ΛC x l RX1 cX1_note rm_f1_note none 3 post0) {K : Hp → Prop} (x1 : Int32) (x2 : Nat) (kx2 : kdC x2 = 0) (h : Hp) (hR : ∀ h : Hp, K h → post0 none h) (T : Tt (f1_note_13 x1 x2 h) K) : G ΛC x 13 [(0, .ref 34), (1, .int x1), (2, .ref x2)] [] h := by
  refine g_aload_n (q := 0) C dX1_note_13 rfl rfl ?_
  refine g_getF (k := 0) (q := 35) C dX1_note_14 (hpC rfl rfl) rfl fl_X1_9 rfl rfl ?_
  refine g_aload_n (q := 0) C dX1_note_17 rfl rfl ?_
  refine g_getI (k := 4) C dX1_note_18 (hpC rfl rfl) rfl fl_X1_25 rfl ?_
  refine g_iload_n (q := 1) C dX1_note_21 rfl rfl ?_
  obtain ⟨g2, T⟩ := tt_gd T
  obtain ⟨h3, eh3, T⟩ := tt_lt T
  refine g_iast C dX1_note_22 (hpC rfl rfl) rfl (inb_of rfl g2) eh3 ?_
  refine g_aload_n (q := 0) C dX1_note_23 rfl rfl ?_
  refine g_getF (k := 1) (q := 36) C dX1_note_24 (hpC rfl rfl) rfl fl_X1_15 rfl rfl ?_
  refine g_aload_n (q := 0) C dX1_note_27 rfl rfl ?_
  refine g_getI (k := 4) C dX1_note_28 (hpC rfl rfl) rfl fl_X1_25 rfl ?_
  refine g_aload_n (q := 2) C dX1_note_31 rfl rfl ?_
  refine g_getI (k := 5) C dX1_note_32 (hpC kx2 rfl) kx2 fl_X1_32 rfl ?_
  obtain ⟨g4, T⟩ := tt_gd T
  obtain ⟨h5, eh5, T⟩ := tt_lt T
  refine g_iast C dX1_note_35 (hpC rfl rfl) rfl (inb_of rfl g4) eh5 ?_
  refine g_aload_n (q := 0) C dX1_note_36 rfl rfl ?_
  refine g_getF (k := 2) (q := 37) C dX1_note_37 (hpC rfl rfl) rfl fl_X1_18 rfl rfl ?_
  refine g_aload_n (q := 0) C dX1_note_40 rfl rfl ?_
  refine g_getI (k := 4) C dX1_note_41 (hpC rfl rfl) rfl fl_X1_25 rfl ?_
  refine g_aload_n (q := 2) C dX1_note_44 rfl rfl ?_
  refine g_getI (k := 9) C dX1_note_45 (hpC kx2 rfl) kx2 fl_X1_37 rfl ?_
  obtain ⟨g6, T⟩ := tt_gd T
  obtain ⟨h7, eh7, T⟩ := tt_lt T
  refine g_iast C dX1_note_48 (hpC rfl rfl) rfl (inb_of rfl g6) eh7 ?_
  refine g_aload_n (q := 0) C dX1_note_49 rfl rfl ?_
  refine g_getF (k := 3) (q := 38) C dX1_note_50 (hpC rfl rfl) rfl fl_X1_21 rfl rfl ?_
  refine g_aload_n (q := 0) C dX1_note_53 rfl rfl ?_
  refine g_getI (k := 4) C dX1_note_54 (hpC rfl rfl) rfl fl_X1_25 rfl ?_
  refine g_aload_n (q := 2) C dX1_note_57 rfl rfl ?_
  refine g_getI (k := 10) C dX1_note_58 (hpC kx2 rfl) kx2 fl_X1_39 rfl ?_
  obtain ⟨g8, T⟩ := tt_gd T
  obtain ⟨g9, T⟩ := tt_gd T
  obtain ⟨h10, eh10, T⟩ := tt_lt T
  refine g_zast C dX1_note_61 (hpC rfl rfl) rfl (inb_of rfl g8) (bz_or g9) eh10 ?_
  refine g_aload_n (q := 0) C dX1_note_62 rfl rfl ?_
  refine g_dup C dX1_note_63 rfl ?_
  refine g_getI (k := 4) C dX1_note_64 (hpC rfl rfl) rfl fl_X1_25 rfl ?_
  refine g_iconst (v := 1) C dX1_note_67 (by decide) ?_
  refine g_iadd C dX1_note_68 ?_
  obtain ⟨h11, eh11, T⟩ := tt_lt T
  refine g_putI (k := 4) C dX1_note_69 (hpC rfl rfl) rfl fp_X1_25 rfl eh11 ?_
  exact g_vret C dX1_note_72 (hR _ (tt_some T))

noncomputable def f1_note (x1 : Int32) (x2 : Nat) (h : Hp) : Option (Hp) :=
  if h.1 34 4 = 20 then ((f1_dropEarliest h).bind fun h12 => f1_note_13 x1 x2 h12) else (f1_note_13 x1 x2 h)
set_option maxRecDepth 100000 in
set_option maxHeartbeats 4000000 in
theorem k_f1_note {x : Mx} {l : Launch} {post0 : Option Value → Hp → Prop} (C : Cx ΛC x l RX1 cX1_note rm_f1_note none 3 post0) {K : Hp → Prop} (x1 : Int32) (x2 : Nat) (kx2 : kdC x2 = 0) (h : Hp) (hR : ∀ h : Hp, K h → post0 none h) (T : Tt (f1_note x1 x2 h) K) : G ΛC x 0 [(0, .ref 34), (1, .int x1), (2, .ref x2)] [] h := by
  refine g_aload_n (q := 0) C dX1_note_0 rfl rfl ?_
  refine g_getI (k := 4) C dX1_note_1 (hpC rfl rfl) rfl fl_X1_25 rfl ?_
  refine g_bipush (v := 20) C dX1_note_4 (by decide) ?_
  refine g_icmp_ne (tgt := 13) C dX1_note_6 (by decide) (fun c1 => ?_) (fun c1 => ?_)
  · have T := tt_f T c1
    exact k_f1_note_13 C x1 x2 kx2 h hR T
  · have T := tt_t T c1
    refine g_aload_n (q := 0) C dX1_note_9 rfl rfl ?_
    refine g_callV (p := 34) (As := []) C dX1_note_10 ml_X1_29 yv_f1_dropEarliest ⟨rfl, rfl⟩ ⟨Nat.le_of_ble_eq_true rfl, Nat.le_of_ble_eq_true rfl⟩ (hpC rfl rfl) rfl rfl rfl (Nat.le_of_ble_eq_true rfl) (ok_f1_dropEarliest h (tt_bind T)) ?_
    rintro _ h12 ⟨rfl, T⟩
    show G ΛC x 13 [(0, .ref 34), (1, .int x1), (2, .ref x2)] [] h12
    exact k_f1_note_13 C x1 x2 kx2 h12 hR T

theorem ok_f1_note {l : Launch} {K : Hp → Prop} (x1 : Int32) (x2 : Nat) (kx2 : kdC x2 = 0) (h : Hp) (T : Tt (f1_note x1 x2 h) K) : Ok ΛC l yX1_note cX1_note 3 none rm_f1_note [.ref 34, .int x1, .ref x2] h (PVw K) :=
  Ok.of RX1 rfl (by decide) ⟨rfl, rfl⟩ (Nat.le_of_ble_eq_true rfl) (fun x C => k_f1_note C x1 x2 kx2 h (fun _ q => ⟨rfl, q⟩) T)

abbrev rm_f10_isDrawn : Room := { frames := 0, cells := 0, slots := 0, locals := 0 }
noncomputable def f10_isDrawn_20 (h : Hp) : Option (Int32) :=
  some 0
set_option maxRecDepth 100000 in
set_option maxHeartbeats 4000000 in
theorem k_f10_isDrawn_20 {x : Mx} {l : Launch} {post0 : Option Value → Hp → Prop} (C : Cx ΛC x l RX10 cX10_isDrawn rm_f10_isDrawn (some .boolean) 1 post0) {K : Int32 → Prop} (h : Hp) (hR : ∀ v : Int32, K v → post0 (some (.int v)) h) (T : Tt (f10_isDrawn_20 h) K) : G ΛC x 20 [] [] h := by
  refine g_iconst (v := 0) C dX10_isDrawn_20 (by decide) ?_
  exact g_zret C dX10_isDrawn_21 (Or.inl rfl) (hR _ (tt_some T))

noncomputable def f10_isDrawn (x0 : Nat) (h : Hp) : Option (Int32) :=
  if h.1 x0 9 ≤ 0 then (f10_isDrawn_20 h) else (if 100 ≤ h.1 x0 9 then (f10_isDrawn_20 h) else (some 1))
set_option maxRecDepth 100000 in
set_option maxHeartbeats 4000000 in
theorem k_f10_isDrawn {x : Mx} {l : Launch} {post0 : Option Value → Hp → Prop} (C : Cx ΛC x l RX10 cX10_isDrawn rm_f10_isDrawn (some .boolean) 1 post0) {K : Int32 → Prop} (x0 : Nat) (kx0 : kdC x0 = 10) (h : Hp) (hR : ∀ v : Int32, K v → post0 (some (.int v)) h) (T : Tt (f10_isDrawn x0 h) K) : G ΛC x 0 [(0, .ref x0)] [] h := by
  refine g_aload_n (q := 0) C dX10_isDrawn_0 rfl rfl ?_
  refine g_getI (k := 9) C dX10_isDrawn_1 (hpC kx0 rfl) kx0 fl_X10_51 rfl ?_
  refine g_if_le (tgt := 20) C dX10_isDrawn_4 (by decide) (fun c1 => ?_) (fun c1 => ?_)
  · have T := tt_t T c1
    refine g_sub [] rfl ?_
    exact k_f10_isDrawn_20 C h hR T
  · have T := tt_f T c1
    refine g_aload_n (q := 0) C dX10_isDrawn_7 rfl rfl ?_
    refine g_getI (k := 9) C dX10_isDrawn_8 (hpC kx0 rfl) kx0 fl_X10_51 rfl ?_
    refine g_bipush (v := 100) C dX10_isDrawn_11 (by decide) ?_
    refine g_icmp_ge (tgt := 20) C dX10_isDrawn_13 (by decide) (fun c2 => ?_) (fun c2 => ?_)
    · have T := tt_t T c2
      refine g_sub [] rfl ?_
      exact k_f10_isDrawn_20 C h hR T
    · have T := tt_f T c2
      refine g_iconst (v := 1) C dX10_isDrawn_16 (by decide) ?_
      refine g_goto (tgt := 21) C dX10_isDrawn_17 (by decide) ?_
      exact g_zret C dX10_isDrawn_21 (Or.inr rfl) (hR _ (tt_some T))

theorem ok_f10_isDrawn {l : Launch} {K : Int32 → Prop} (x0 : Nat) (kx0 : kdC x0 = 10) (h : Hp) (T : Tt (f10_isDrawn x0 h) K) : Ok ΛC l yX10_isDrawn cX10_isDrawn 1 (some .boolean) rm_f10_isDrawn [.ref x0] h (PIs K h) :=
  Ok.of RX10 rfl (by decide) ⟨rfl, rfl⟩ (Nat.le_of_ble_eq_true rfl) (fun x C => k_f10_isDrawn C x0 kx0 h (fun v q => ⟨v, rfl, rfl, q⟩) T)

abbrev rm_f9_nextNumber : Room := { frames := 0, cells := 0, slots := 0, locals := 0 }
noncomputable def f9_nextNumber (x0 : Int32) : Option (Int32) :=
  some ((((x0.toInt64 * 1103515245) + 12345) &&& 2147483647).toInt32)
set_option maxRecDepth 100000 in
set_option maxHeartbeats 4000000 in
theorem k_f9_nextNumber {x : Mx} {l : Launch} {post0 : Option Value → Hp → Prop} (C : Cx ΛC x l RX9 cX9_nextNumber rm_f9_nextNumber (some .int) 1 post0) {K : Int32 → Prop} (x0 : Int32) (h : Hp) (hR : ∀ v : Int32, K v → post0 (some (.int v)) h) (T : Tt (f9_nextNumber x0) K) : G ΛC x 0 [(0, .int x0)] [] h := by
  refine g_iload_n (q := 0) C dX9_nextNumber_0 rfl rfl ?_
  refine g_i2l C dX9_nextNumber_1 ?_
  refine g_ldc2 (v := 1103515245) C dX9_nextNumber_2 kl_X9_62 ?_
  refine g_lmul C dX9_nextNumber_5 ?_
  refine g_ldc2 (v := 12345) C dX9_nextNumber_6 kl_X9_64 ?_
  refine g_ladd C dX9_nextNumber_9 ?_
  refine g_ldc2 (v := 2147483647) C dX9_nextNumber_10 kl_X9_66 ?_
  refine g_land C dX9_nextNumber_13 ?_
  refine g_l2i C dX9_nextNumber_14 ?_
  exact g_iret C dX9_nextNumber_15 (hR _ (tt_some T))

theorem ok_f9_nextNumber {l : Launch} {K : Int32 → Prop} (x0 : Int32) (h : Hp) (T : Tt (f9_nextNumber x0) K) : Ok ΛC l yX9_nextNumber cX9_nextNumber 1 (some .int) rm_f9_nextNumber [.int x0] h (PIs K h) :=
  Ok.of RX9 rfl (by decide) ⟨rfl, rfl⟩ (Nat.le_of_ble_eq_true rfl) (fun x C => k_f9_nextNumber C x0 h (fun v q => ⟨v, rfl, rfl, q⟩) T)

abbrev rm_f10_isDampBy : Room := { frames := 1, cells := 0, slots := 0, locals := 20 }
noncomputable def f10_isDampBy (x0 : Nat) (x1 : Int32) (h : Hp) : Option (Int32) :=
  (f10_isDrawn x0 h).bind fun r1 => if r1 = 0 then (if h.1 x0 9 = 100 then (some 1) else (some 0)) else (if h.1 x0 9 ≤ (x1 / 65536) - (x1 / 65536) / 100 * 100 then (some 0) else (some 1))
set_option maxRecDepth 100000 in
set_option maxHeartbeats 4000000 in
theorem k_f10_isDampBy {x : Mx} {l : Launch} {post0 : Option Value → Hp → Prop} (C : Cx ΛC x l RX10 cX10_isDampBy rm_f10_isDampBy (some .boolean) 2 post0) {K : Int32 → Prop} (x0 : Nat) (x1 : Int32) (kx0 : kdC x0 = 10) (h : Hp) (hR : ∀ v : Int32, K v → post0 (some (.int v)) h) (T : Tt (f10_isDampBy x0 x1 h) K) : G ΛC x 0 [(0, .ref x0), (1, .int x1)] [] h := by
  refine g_aload_n (q := 0) C dX10_isDampBy_0 rfl rfl ?_
  refine g_callV (p := x0) (As := []) C dX10_isDampBy_1 ml_X10_70 yv_f10_isDrawn ⟨rfl, rfl⟩ ⟨Nat.le_of_ble_eq_true rfl, Nat.le_of_ble_eq_true rfl⟩ (hpC kx0 rfl) kx0 rfl rfl (Nat.le_of_ble_eq_true rfl) (ok_f10_isDrawn x0 kx0 h (tt_bind T)) ?_
  rintro _ _ ⟨r1, rfl, rfl, T⟩
  show G ΛC x 4 [(0, .ref x0), (1, .int x1)] [.int r1] h
  refine g_if_eq (tgt := 29) C dX10_isDampBy_4 (by decide) (fun c2 => ?_) (fun c2 => ?_)
  · have T := tt_t T c2
    refine g_aload_n (q := 0) C dX10_isDampBy_29 rfl rfl ?_
    refine g_getI (k := 9) C dX10_isDampBy_30 (hpC kx0 rfl) kx0 fl_X10_51 rfl ?_
    refine g_bipush (v := 100) C dX10_isDampBy_33 (by decide) ?_
    refine g_icmp_ne (tgt := 42) C dX10_isDampBy_35 (by decide) (fun c3 => ?_) (fun c3 => ?_)
    · have T := tt_f T c3
      refine g_iconst (v := 0) C dX10_isDampBy_42 (by decide) ?_
      exact g_zret C dX10_isDampBy_43 (Or.inl rfl) (hR _ (tt_some T))
    · have T := tt_t T c3
      refine g_iconst (v := 1) C dX10_isDampBy_38 (by decide) ?_
      refine g_goto (tgt := 43) C dX10_isDampBy_39 (by decide) ?_
      exact g_zret C dX10_isDampBy_43 (Or.inr rfl) (hR _ (tt_some T))
  · have T := tt_f T c2
    refine g_iload_n (q := 1) C dX10_isDampBy_7 rfl rfl ?_
    refine g_ldc (v := 65536) C dX10_isDampBy_8 kc_X10_74 ?_
    refine g_idiv C dX10_isDampBy_10 (by decide) ?_
    refine g_bipush (v := 100) C dX10_isDampBy_11 (by decide) ?_
    refine g_irem C dX10_isDampBy_13 (by decide) ?_
    refine g_aload_n (q := 0) C dX10_isDampBy_14 rfl rfl ?_
    refine g_getI (k := 9) C dX10_isDampBy_15 (hpC kx0 rfl) kx0 fl_X10_51 rfl ?_
    refine g_icmp_ge (tgt := 25) C dX10_isDampBy_18 (by decide) (fun c4 => ?_) (fun c4 => ?_)
    · have T := tt_t T c4
      refine g_iconst (v := 0) C dX10_isDampBy_25 (by decide) ?_
      refine g_goto (tgt := 43) C dX10_isDampBy_26 (by decide) ?_
      exact g_zret C dX10_isDampBy_43 (Or.inl rfl) (hR _ (tt_some T))
    · have T := tt_f T c4
      refine g_iconst (v := 1) C dX10_isDampBy_21 (by decide) ?_
      refine g_goto (tgt := 43) C dX10_isDampBy_22 (by decide) ?_
      exact g_zret C dX10_isDampBy_43 (Or.inr rfl) (hR _ (tt_some T))

theorem ok_f10_isDampBy {l : Launch} {K : Int32 → Prop} (x0 : Nat) (x1 : Int32) (kx0 : kdC x0 = 10) (h : Hp) (T : Tt (f10_isDampBy x0 x1 h) K) : Ok ΛC l yX10_isDampBy cX10_isDampBy 2 (some .boolean) rm_f10_isDampBy [.ref x0, .int x1] h (PIs K h) :=
  Ok.of RX10 rfl (by decide) ⟨rfl, rfl⟩ (Nat.le_of_ble_eq_true rfl) (fun x C => k_f10_isDampBy C x0 x1 kx0 h (fun v q => ⟨v, rfl, rfl, q⟩) T)

abbrev rm_f0_isLetGo : Room := { frames := 0, cells := 0, slots := 0, locals := 0 }
noncomputable def f0_isLetGo_18 (h : Hp) : Option (Int32) :=
  some 0
set_option maxRecDepth 100000 in
set_option maxHeartbeats 4000000 in
theorem k_f0_isLetGo_18 {x : Mx} {l : Launch} {post0 : Option Value → Hp → Prop} (C : Cx ΛC x l RX0 cX0_isLetGo rm_f0_isLetGo (some .boolean) 1 post0) {K : Int32 → Prop} (h : Hp) (hR : ∀ v : Int32, K v → post0 (some (.int v)) h) (T : Tt (f0_isLetGo_18 h) K) : G ΛC x 18 [] [] h := by
  refine g_iconst (v := 0) C dX0_isLetGo_18 (by decide) ?_
  exact g_zret C dX0_isLetGo_19 (Or.inl rfl) (hR _ (tt_some T))

noncomputable def f0_isLetGo (x0 : Nat) (h : Hp) : Option (Int32) :=
  if h.1 x0 10 = 0 then (if h.1 x0 5 ≤ 0 then (f0_isLetGo_18 h) else (some 1)) else (f0_isLetGo_18 h)
set_option maxRecDepth 100000 in
set_option maxHeartbeats 4000000 in
theorem k_f0_isLetGo {x : Mx} {l : Launch} {post0 : Option Value → Hp → Prop} (C : Cx ΛC x l RX0 cX0_isLetGo rm_f0_isLetGo (some .boolean) 1 post0) {K : Int32 → Prop} (x0 : Nat) (kx0 : kdC x0 = 0) (h : Hp) (hR : ∀ v : Int32, K v → post0 (some (.int v)) h) (T : Tt (f0_isLetGo x0 h) K) : G ΛC x 0 [(0, .ref x0)] [] h := by
  refine g_aload_n (q := 0) C dX0_isLetGo_0 rfl rfl ?_
  refine g_getI (k := 10) C dX0_isLetGo_1 (hpC kx0 rfl) kx0 fl_X0_49 rfl ?_
  refine g_if_ne (tgt := 18) C dX0_isLetGo_4 (by decide) (fun c1 => ?_) (fun c1 => ?_)
  · have T := tt_f T c1
    refine g_sub [] rfl ?_
    exact k_f0_isLetGo_18 C h hR T
  · have T := tt_t T c1
    refine g_aload_n (q := 0) C dX0_isLetGo_7 rfl rfl ?_
    refine g_getI (k := 5) C dX0_isLetGo_8 (hpC kx0 rfl) kx0 fl_X0_34 rfl ?_
    refine g_if_le (tgt := 18) C dX0_isLetGo_11 (by decide) (fun c2 => ?_) (fun c2 => ?_)
    · have T := tt_t T c2
      refine g_sub [] rfl ?_
      exact k_f0_isLetGo_18 C h hR T
    · have T := tt_f T c2
      refine g_iconst (v := 1) C dX0_isLetGo_14 (by decide) ?_
      refine g_goto (tgt := 19) C dX0_isLetGo_15 (by decide) ?_
      exact g_zret C dX0_isLetGo_19 (Or.inr rfl) (hR _ (tt_some T))

theorem ok_f0_isLetGo {l : Launch} {K : Int32 → Prop} (x0 : Nat) (kx0 : kdC x0 = 0) (h : Hp) (T : Tt (f0_isLetGo x0 h) K) : Ok ΛC l yX0_isLetGo cX0_isLetGo 1 (some .boolean) rm_f0_isLetGo [.ref x0] h (PIs K h) :=
  Ok.of RX0 rfl (by decide) ⟨rfl, rfl⟩ (Nat.le_of_ble_eq_true rfl) (fun x C => k_f0_isLetGo C x0 kx0 h (fun v q => ⟨v, rfl, rfl, q⟩) T)

abbrev rm_f0_placesHeard : Room := { frames := 2, cells := 0, slots := 0, locals := 44 }
noncomputable def f0_placesHeard_25 (x0 : Nat) (x1 : Int32) (x2 : Int32) (h : Hp) : Option ((Int32 × Int32) ⊕ (Int32)) :=
  some (.inl (x1, x2 + 1))
set_option maxRecDepth 100000 in
set_option maxHeartbeats 4000000 in
theorem k_f0_placesHeard_25 {x : Mx} {l : Launch} {post0 : Option Value → Hp → Prop} (C : Cx ΛC x l RX0 cX0_placesHeard rm_f0_placesHeard (some .int) 3 post0) {K : (Int32 × Int32) ⊕ (Int32) → Prop} (x0 : Nat) (x1 : Int32) (x2 : Int32) (kx0 : kdC x0 = 0) (h : Hp) (hR : ∀ v : Int32, K (.inr v) → post0 (some (.int v)) h) (hL4 : ∀ (x1 : Int32) (x2 : Int32), K (.inl (x1, x2)) → G ΛC x 4 [(0, .ref x0), (1, .int x1), (2, .int x2)] [] h) (T : Tt (f0_placesHeard_25 x0 x1 x2 h) K) : G ΛC x 25 [(0, .ref x0), (1, .int x1), (2, .int x2)] [] h := by
  refine g_iinc (v := x2 + 1) (q := 2) (L' := [(2, .int (x2 + 1)), (0, .ref x0), (1, .int x1)]) C dX0_placesHeard_25 rfl (by first | rfl | exact congrArg _ (by decide)) (by decide) rfl ?_
  refine g_goto (tgt := 4) C dX0_placesHeard_28 (by decide) ?_
  refine g_sub [1, 2, 0] rfl ?_
  exact hL4 _ _ (tt_some T)

noncomputable def f0_placesHeard_4_s (x0 : Nat) (x1 : Int32) (x2 : Int32) (h : Hp) : Option ((Int32 × Int32) ⊕ (Int32)) :=
  if 8 ≤ x2 then (some (.inr x1)) else ((f0_heardWith x0 x2 (h.1 x0 6) h).bind fun r2 => if r2 ≤ 0 then (f0_placesHeard_25 x0 x1 x2 h) else (f0_placesHeard_25 x0 (x1 + 1) x2 h))
set_option maxRecDepth 100000 in
set_option maxHeartbeats 4000000 in
theorem k_f0_placesHeard_4_s {x : Mx} {l : Launch} {post0 : Option Value → Hp → Prop} (C : Cx ΛC x l RX0 cX0_placesHeard rm_f0_placesHeard (some .int) 3 post0) {K : (Int32 × Int32) ⊕ (Int32) → Prop} (x0 : Nat) (x1 : Int32) (x2 : Int32) (kx0 : kdC x0 = 0) (h : Hp) (hR : ∀ v : Int32, K (.inr v) → post0 (some (.int v)) h) (hL4 : ∀ (x1 : Int32) (x2 : Int32), K (.inl (x1, x2)) → G ΛC x 4 [(0, .ref x0), (1, .int x1), (2, .int x2)] [] h) (T : Tt (f0_placesHeard_4_s x0 x1 x2 h) K) : G ΛC x 4 [(0, .ref x0), (1, .int x1), (2, .int x2)] [] h := by
  refine g_iload_n (q := 2) C dX0_placesHeard_4 rfl rfl ?_
  refine g_bipush (v := 8) C dX0_placesHeard_5 (by decide) ?_
  refine g_icmp_ge (tgt := 31) C dX0_placesHeard_7 (by decide) (fun c1 => ?_) (fun c1 => ?_)
  · have T := tt_t T c1
    refine g_iload_n (q := 1) C dX0_placesHeard_31 rfl rfl ?_
    exact g_iret C dX0_placesHeard_32 (hR _ (tt_some T))
  · have T := tt_f T c1
    refine g_aload_n (q := 0) C dX0_placesHeard_10 rfl rfl ?_
    refine g_iload_n (q := 2) C dX0_placesHeard_11 rfl rfl ?_
    refine g_aload_n (q := 0) C dX0_placesHeard_12 rfl rfl ?_
    refine g_getI (k := 6) C dX0_placesHeard_13 (hpC kx0 rfl) kx0 fl_X0_37 rfl ?_
    refine g_callV (p := x0) (As := [.int x2, .int (h.1 x0 6)]) C dX0_placesHeard_16 ml_X0_53 yv_f0_heardWith ⟨rfl, rfl⟩ ⟨Nat.le_of_ble_eq_true rfl, Nat.le_of_ble_eq_true rfl⟩ (hpC kx0 rfl) kx0 rfl rfl (Nat.le_of_ble_eq_true rfl) (ok_f0_heardWith x0 x2 (h.1 x0 6) kx0 h (tt_bind T)) ?_
    rintro _ _ ⟨r2, rfl, rfl, T⟩
    show G ΛC x 19 [(0, .ref x0), (1, .int x1), (2, .int x2)] [.int r2] h
    refine g_if_le (tgt := 25) C dX0_placesHeard_19 (by decide) (fun c3 => ?_) (fun c3 => ?_)
    · have T := tt_t T c3
      exact k_f0_placesHeard_25 C x0 x1 x2 kx0 h hR hL4 T
    · have T := tt_f T c3
      refine g_iinc (v := x1 + 1) (q := 1) (L' := [(1, .int (x1 + 1)), (0, .ref x0), (2, .int x2)]) C dX0_placesHeard_22 rfl (by first | rfl | exact congrArg _ (by decide)) (by decide) rfl ?_
      refine g_sub [1, 0, 2] rfl ?_
      exact k_f0_placesHeard_25 C x0 (x1 + 1) x2 kx0 h hR hL4 T

noncomputable def f0_placesHeard_4 (x0 : Nat) (x1 : Int32) (x2 : Int32) (h : Hp) : Option (Int32) := lp (fun z : Int32 × Int32 => f0_placesHeard_4_s x0 z.1 z.2 h) (x1, x2)
theorem k_f0_placesHeard_4 {x : Mx} {l : Launch} {post0 : Option Value → Hp → Prop} (C : Cx ΛC x l RX0 cX0_placesHeard rm_f0_placesHeard (some .int) 3 post0) {K : Int32 → Prop} (x0 : Nat) (x1 : Int32) (x2 : Int32) (kx0 : kdC x0 = 0) (h : Hp) (hR : ∀ v : Int32, K v → post0 (some (.int v)) h) (T : Tt (f0_placesHeard_4 x0 x1 x2 h) K) : G ΛC x 4 [(0, .ref x0), (1, .int x1), (2, .int x2)] [] h :=
  lp_ind (f := fun z : Int32 × Int32 => f0_placesHeard_4_s x0 z.1 z.2 h) (P := fun z : Int32 × Int32 => G ΛC x 4 [(0, .ref x0), (1, .int z.1), (2, .int z.2)] [] h) (K := K) (fun z T => k_f0_placesHeard_4_s C (K := KS (fun z : Int32 × Int32 => G ΛC x 4 [(0, .ref x0), (1, .int z.1), (2, .int z.2)] [] h) K) x0 z.1 z.2 kx0 h hR (fun _ _ q => q) T) (x1, x2) T
noncomputable def f0_placesHeard (x0 : Nat) (h : Hp) : Option (Int32) :=
  f0_placesHeard_4 x0 0 0 h
set_option maxRecDepth 100000 in
set_option maxHeartbeats 4000000 in
theorem k_f0_placesHeard {x : Mx} {l : Launch} {post0 : Option Value → Hp → Prop} (C : Cx ΛC x l RX0 cX0_placesHeard rm_f0_placesHeard (some .int) 3 post0) {K : Int32 → Prop} (x0 : Nat) (kx0 : kdC x0 = 0) (h : Hp) (hR : ∀ v : Int32, K v → post0 (some (.int v)) h) (T : Tt (f0_placesHeard x0 h) K) : G ΛC x 0 [(0, .ref x0)] [] h := by
  refine g_iconst (v := 0) C dX0_placesHeard_0 (by decide) ?_
  refine g_istore_n (L' := [(1, .int 0), (0, .ref x0)]) C dX0_placesHeard_1 rfl (by decide) rfl ?_
  refine g_iconst (v := 0) C dX0_placesHeard_2 (by decide) ?_
  refine g_istore_n (L' := [(2, .int 0), (1, .int 0), (0, .ref x0)]) C dX0_placesHeard_3 rfl (by decide) rfl ?_
  refine g_sub [2, 1, 0] rfl ?_
  exact k_f0_placesHeard_4 C x0 0 0 kx0 h hR T

theorem ok_f0_placesHeard {l : Launch} {K : Int32 → Prop} (x0 : Nat) (kx0 : kdC x0 = 0) (h : Hp) (T : Tt (f0_placesHeard x0 h) K) : Ok ΛC l yX0_placesHeard cX0_placesHeard 3 (some .int) rm_f0_placesHeard [.ref x0] h (PIs K h) :=
  Ok.of RX0 rfl (by decide) ⟨rfl, rfl⟩ (Nat.le_of_ble_eq_true rfl) (fun x C => k_f0_placesHeard C x0 kx0 h (fun v q => ⟨v, rfl, rfl, q⟩) T)

abbrev rm_f0_hold : Room := { frames := 1, cells := 0, slots := 0, locals := 23 }
noncomputable def f0_hold (x0 : Int64) (x2 : Int32) : Option (Int32) :=
  some ((if (if x0 < x2.toInt64 then x0 else x2.toInt64 : Int64) < 0 then 0 else (if x0 < x2.toInt64 then x0 else x2.toInt64 : Int64) : Int64).toInt32)
set_option maxRecDepth 100000 in
set_option maxHeartbeats 4000000 in
theorem k_f0_hold {x : Mx} {l : Launch} {post0 : Option Value → Hp → Prop} (C : Cx ΛC x l RX0 cX0_hold rm_f0_hold (some .int) 3 post0) {K : Int32 → Prop} (x0 : Int64) (x2 : Int32) (h : Hp) (hR : ∀ v : Int32, K v → post0 (some (.int v)) h) (T : Tt (f0_hold x0 x2) K) : G ΛC x 0 [(0, .long x0), (2, .int x2)] [] h := by
  refine g_lconst (v := 0) C dX0_hold_0 (by decide) ?_
  refine g_iload_n (q := 1) C dX0_hold_1 rfl rfl ?_
  refine g_i2l C dX0_hold_2 ?_
  refine g_lload_n (q := 0) C dX0_hold_3 rfl rfl ?_
  refine g_mminL C dX0_hold_4 mm_X0_97 ms_minL mi_math mc_minL (Nat.le_of_ble_eq_true rfl) (Nat.le_of_ble_eq_true rfl) ?_
  refine g_mmaxL C dX0_hold_7 mm_X0_100 ms_maxL mi_math mc_maxL (Nat.le_of_ble_eq_true rfl) (Nat.le_of_ble_eq_true rfl) ?_
  refine g_l2i C dX0_hold_10 ?_
  exact g_iret C dX0_hold_11 (hR _ (tt_some T))

theorem ok_f0_hold {l : Launch} {K : Int32 → Prop} (x0 : Int64) (x2 : Int32) (h : Hp) (T : Tt (f0_hold x0 x2) K) : Ok ΛC l yX0_hold cX0_hold 3 (some .int) rm_f0_hold [.long x0, .int x2] h (PIs K h) :=
  Ok.of RX0 rfl (by decide) ⟨rfl, rfl⟩ (Nat.le_of_ble_eq_true rfl) (fun x C => k_f0_hold C x0 x2 h (fun v q => ⟨v, rfl, rfl, q⟩) T)

abbrev rm_f0_letGo : Room := { frames := 3, cells := 0, slots := 0, locals := 75 }
noncomputable def f0_letGo_90 (s0 : Int32) (s1 : Int32) (s2 : Int32) (s3 : Nat) (h : Hp) : Option (Hp) :=
  lt (wI h s3 5 (if s2 < s1 - s0 then s1 - s0 else s2 : Int32)) fun h7 => some (h7)
set_option maxRecDepth 100000 in
set_option maxHeartbeats 4000000 in
theorem k_f0_letGo_90 {x : Mx} {l : Launch} {post0 : Option Value → Hp → Prop} (C : Cx ΛC x l RX0 cX0_letGo rm_f0_letGo none 6 post0) {K : Hp → Prop} (s0 : Int32) (s1 : Int32) (s2 : Int32) (s3 : Nat) (ks3 : kdC s3 = 0) (h : Hp) (hR : ∀ h : Hp, K h → post0 none h) (T : Tt (f0_letGo_90 s0 s1 s2 s3 h) K) : G ΛC x 90 [] [.int s0, .int s1, .int s2, .ref s3] h := by
  refine g_isub C dX0_letGo_90 ?_
  refine g_mmax C dX0_letGo_91 mm_X0_94 ms_max mi_math mc_max (Nat.le_of_ble_eq_true rfl) (Nat.le_of_ble_eq_true rfl) ?_
  obtain ⟨h7, eh7, T⟩ := tt_lt T
  refine g_putI (k := 5) C dX0_letGo_94 (hpC ks3 rfl) ks3 fp_X0_34 rfl eh7 ?_
  exact g_vret C dX0_letGo_97 (hR _ (tt_some T))

noncomputable def f0_letGo_55 (x0 : Nat) (x1 : Nat) (x2 : Int32) (h : Hp) : Option (Hp) :=
  (f5_worth x1 0 x0 x2 h).bind fun (r3, h4) => if lg_cmp r3 (-9223372036854775808) = 0 then (f0_letGo_90 1 (h4.1 x0 5) 0 x0 h4) else ((f0_hold r3 9).bind fun r6 => f0_letGo_90 r6 (h4.1 x0 5) 0 x0 h4)
set_option maxRecDepth 100000 in
set_option maxHeartbeats 4000000 in
theorem k_f0_letGo_55 {x : Mx} {l : Launch} {post0 : Option Value → Hp → Prop} (C : Cx ΛC x l RX0 cX0_letGo rm_f0_letGo none 6 post0) {K : Hp → Prop} (x0 : Nat) (x1 : Nat) (x2 : Int32) (kx0 : kdC x0 = 0) (kx1 : kdC x1 = 5) (h : Hp) (hR : ∀ h : Hp, K h → post0 none h) (T : Tt (f0_letGo_55 x0 x1 x2 h) K) : G ΛC x 55 [(0, .ref x0), (1, .ref x1), (2, .int x2)] [] h := by
  refine g_aload_n (q := 1) C dX0_letGo_55 rfl rfl ?_
  refine g_iconst (v := 0) C dX0_letGo_56 (by decide) ?_
  refine g_aload_n (q := 0) C dX0_letGo_57 rfl rfl ?_
  refine g_iload_n (q := 2) C dX0_letGo_58 rfl rfl ?_
  refine g_callV (p := x1) (As := [.int 0, .ref x0, .int x2]) C dX0_letGo_59 ml_X0_78 yv_f5_worth ⟨rfl, rfl⟩ ⟨Nat.le_of_ble_eq_true rfl, Nat.le_of_ble_eq_true rfl⟩ (hpC kx1 rfl) kx1 rfl rfl (Nat.le_of_ble_eq_true rfl) (ok_f5_worth x1 0 x0 x2 kx1 kx0 h (tt_bind T)) ?_
  rintro _ h4 ⟨r3, rfl, T⟩
  show G ΛC x 62 [(0, .ref x0), (1, .ref x1), (2, .int x2)] [.long r3] h4
  refine g_lstore (L' := [(4, .long r3), (0, .ref x0), (1, .ref x1), (2, .int x2)]) C dX0_letGo_62 (by decide) rfl ?_
  refine g_aload_n (q := 1) C dX0_letGo_64 rfl rfl ?_
  refine g_iconst (v := 0) C dX0_letGo_65 (by decide) ?_
  refine g_aload_n (q := 1) C dX0_letGo_66 rfl rfl ?_
  refine g_getI (k := 5) C dX0_letGo_67 (hpC kx0 rfl) kx0 fl_X0_34 rfl ?_
  refine g_lload (q := 0) C dX0_letGo_70 rfl ?_
  refine g_ldc2 (v := (-9223372036854775808)) C dX0_letGo_72 kl_X0_84 ?_
  refine g_lcmp C dX0_letGo_75 ?_
  refine g_if_ne (tgt := 83) C dX0_letGo_76 (by decide) (fun c5 => ?_) (fun c5 => ?_)
  · have T := tt_f T c5
    refine g_lload (q := 0) C dX0_letGo_83 rfl ?_
    refine g_bipush (v := 9) C dX0_letGo_85 (by decide) ?_
    refine g_callS (As := [.long r3, .int 9]) C dX0_letGo_87 ml_X0_90 ys_f0_hold ⟨rfl, rfl⟩ ⟨Nat.le_of_ble_eq_true rfl, Nat.le_of_ble_eq_true rfl⟩ rfl rfl (Nat.le_of_ble_eq_true rfl) (ok_f0_hold r3 9 h4 (tt_bind T)) ?_
    rintro _ _ ⟨r6, rfl, rfl, T⟩
    show G ΛC x 90 [(4, .long r3), (0, .ref x0), (1, .ref x1), (2, .int x2)] [.int r6, .int (h4.1 x0 5), .int 0, .ref x0] h4
    refine g_sub [] rfl ?_
    exact k_f0_letGo_90 C r6 (h4.1 x0 5) 0 x0 kx0 h4 hR T
  · have T := tt_t T c5
    refine g_iconst (v := 1) C dX0_letGo_79 (by decide) ?_
    refine g_goto (tgt := 90) C dX0_letGo_80 (by decide) ?_
    refine g_sub [] rfl ?_
    exact k_f0_letGo_90 C 1 (h4.1 x0 5) 0 x0 kx0 h4 hR T

noncomputable def f0_letGo_51 (x0 : Nat) (x1 : Nat) (x2 : Int32) (s0 : Int32) (s1 : Int32) (s2 : Nat) (h : Hp) : Option (Hp) :=
  lt (wI h s2 8 (s1 + s0)) fun h12 => f0_letGo_55 x0 x1 x2 h12
set_option maxRecDepth 100000 in
set_option maxHeartbeats 4000000 in
theorem k_f0_letGo_51 {x : Mx} {l : Launch} {post0 : Option Value → Hp → Prop} (C : Cx ΛC x l RX0 cX0_letGo rm_f0_letGo none 6 post0) {K : Hp → Prop} (x0 : Nat) (x1 : Nat) (x2 : Int32) (s0 : Int32) (s1 : Int32) (s2 : Nat) (kx0 : kdC x0 = 0) (kx1 : kdC x1 = 5) (ks2 : kdC s2 = 0) (h : Hp) (hR : ∀ h : Hp, K h → post0 none h) (T : Tt (f0_letGo_51 x0 x1 x2 s0 s1 s2 h) K) : G ΛC x 51 [(0, .ref x0), (1, .ref x1), (2, .int x2)] [.int s0, .int s1, .ref s2] h := by
  refine g_iadd C dX0_letGo_51 ?_
  obtain ⟨h12, eh12, T⟩ := tt_lt T
  refine g_putI (k := 8) C dX0_letGo_52 (hpC ks2 rfl) ks2 fp_X0_43 rfl eh12 ?_
  exact k_f0_letGo_55 C x0 x1 x2 kx0 kx1 h12 hR T

noncomputable def f0_letGo (x0 : Nat) (x1 : Nat) (x2 : Int32) (x3 : Int32) (h : Hp) : Option (Hp) :=
  lt (wI h x0 7 ((h.1 x0 7) + 1)) fun h1 => if x3 = 0 then (f0_letGo_55 x0 x1 x2 h1) else ((f5_worth x1 2 x0 x2 h1).bind fun (r8, h9) => if lg_cmp r8 (-9223372036854775808) = 0 then ((f0_placesHeard x0 h9).bind fun r13 => f0_letGo_51 x0 x1 x2 r13 (h9.1 x0 8) x0 h9) else ((f0_hold r8 99).bind fun r11 => f0_letGo_51 x0 x1 x2 r11 (h9.1 x0 8) x0 h9))
set_option maxRecDepth 100000 in
set_option maxHeartbeats 4000000 in
theorem k_f0_letGo {x : Mx} {l : Launch} {post0 : Option Value → Hp → Prop} (C : Cx ΛC x l RX0 cX0_letGo rm_f0_letGo none 6 post0) {K : Hp → Prop} (x0 : Nat) (x1 : Nat) (x2 : Int32) (x3 : Int32) (kx0 : kdC x0 = 0) (kx1 : kdC x1 = 5) (h : Hp) (hR : ∀ h : Hp, K h → post0 none h) (T : Tt (f0_letGo x0 x1 x2 x3 h) K) : G ΛC x 0 [(0, .ref x0), (1, .ref x1), (2, .int x2), (3, .int x3)] [] h := by
  refine g_aload_n (q := 0) C dX0_letGo_0 rfl rfl ?_
  refine g_dup C dX0_letGo_1 rfl ?_
  refine g_getI (k := 7) C dX0_letGo_2 (hpC kx0 rfl) kx0 fl_X0_40 rfl ?_
  refine g_iconst (v := 1) C dX0_letGo_5 (by decide) ?_
  refine g_iadd C dX0_letGo_6 ?_
  obtain ⟨h1, eh1, T⟩ := tt_lt T
  refine g_putI (k := 7) C dX0_letGo_7 (hpC kx0 rfl) kx0 fp_X0_40 rfl eh1 ?_
  refine g_iload_n (q := 3) C dX0_letGo_10 rfl rfl ?_
  refine g_if_eq (tgt := 55) C dX0_letGo_11 (by decide) (fun c2 => ?_) (fun c2 => ?_)
  · have T := tt_t T c2
    refine g_sub [0, 1, 2] rfl ?_
    exact k_f0_letGo_55 C x0 x1 x2 kx0 kx1 h1 hR T
  · have T := tt_f T c2
    refine g_aload_n (q := 1) C dX0_letGo_14 rfl rfl ?_
    refine g_iconst (v := 2) C dX0_letGo_15 (by decide) ?_
    refine g_aload_n (q := 0) C dX0_letGo_16 rfl rfl ?_
    refine g_iload_n (q := 2) C dX0_letGo_17 rfl rfl ?_
    refine g_callV (p := x1) (As := [.int 2, .ref x0, .int x2]) C dX0_letGo_18 ml_X0_78 yv_f5_worth ⟨rfl, rfl⟩ ⟨Nat.le_of_ble_eq_true rfl, Nat.le_of_ble_eq_true rfl⟩ (hpC kx1 rfl) kx1 rfl rfl (Nat.le_of_ble_eq_true rfl) (ok_f5_worth x1 2 x0 x2 kx1 kx0 h1 (tt_bind T)) ?_
    rintro _ h9 ⟨r8, rfl, T⟩
    show G ΛC x 21 [(0, .ref x0), (1, .ref x1), (2, .int x2), (3, .int x3)] [.long r8] h9
    refine g_lstore (L' := [(4, .long r8), (0, .ref x0), (1, .ref x1), (2, .int x2), (3, .int x3)]) C dX0_letGo_21 (by decide) rfl ?_
    refine g_aload_n (q := 1) C dX0_letGo_23 rfl rfl ?_
    refine g_dup C dX0_letGo_24 rfl ?_
    refine g_getI (k := 8) C dX0_letGo_25 (hpC kx0 rfl) kx0 fl_X0_43 rfl ?_
    refine g_lload (q := 0) C dX0_letGo_28 rfl ?_
    refine g_ldc2 (v := (-9223372036854775808)) C dX0_letGo_30 kl_X0_84 ?_
    refine g_lcmp C dX0_letGo_33 ?_
    refine g_if_ne (tgt := 44) C dX0_letGo_34 (by decide) (fun c10 => ?_) (fun c10 => ?_)
    · have T := tt_f T c10
      refine g_lload (q := 0) C dX0_letGo_44 rfl ?_
      refine g_bipush (v := 99) C dX0_letGo_46 (by decide) ?_
      refine g_callS (As := [.long r8, .int 99]) C dX0_letGo_48 ml_X0_90 ys_f0_hold ⟨rfl, rfl⟩ ⟨Nat.le_of_ble_eq_true rfl, Nat.le_of_ble_eq_true rfl⟩ rfl rfl (Nat.le_of_ble_eq_true rfl) (ok_f0_hold r8 99 h9 (tt_bind T)) ?_
      rintro _ _ ⟨r11, rfl, rfl, T⟩
      show G ΛC x 51 [(4, .long r8), (0, .ref x0), (1, .ref x1), (2, .int x2), (3, .int x3)] [.int r11, .int (h9.1 x0 8), .ref x0] h9
      refine g_sub [1, 2, 3] rfl ?_
      exact k_f0_letGo_51 C x0 x1 x2 r11 (h9.1 x0 8) x0 kx0 kx1 kx0 h9 hR T
    · have T := tt_t T c10
      refine g_aload_n (q := 1) C dX0_letGo_37 rfl rfl ?_
      refine g_callV (p := x0) (As := []) C dX0_letGo_38 ml_X0_86 yv_f0_placesHeard ⟨rfl, rfl⟩ ⟨Nat.le_of_ble_eq_true rfl, Nat.le_of_ble_eq_true rfl⟩ (hpC kx0 rfl) kx0 rfl rfl (Nat.le_of_ble_eq_true rfl) (ok_f0_placesHeard x0 kx0 h9 (tt_bind T)) ?_
      rintro _ _ ⟨r13, rfl, rfl, T⟩
      show G ΛC x 41 [(4, .long r8), (0, .ref x0), (1, .ref x1), (2, .int x2), (3, .int x3)] [.int r13, .int (h9.1 x0 8), .ref x0] h9
      refine g_goto (tgt := 51) C dX0_letGo_41 (by decide) ?_
      refine g_sub [1, 2, 3] rfl ?_
      exact k_f0_letGo_51 C x0 x1 x2 r13 (h9.1 x0 8) x0 kx0 kx1 kx0 h9 hR T

theorem ok_f0_letGo {l : Launch} {K : Hp → Prop} (x0 : Nat) (x1 : Nat) (x2 : Int32) (x3 : Int32) (kx0 : kdC x0 = 0) (kx1 : kdC x1 = 5) (h : Hp) (T : Tt (f0_letGo x0 x1 x2 x3 h) K) : Ok ΛC l yX0_letGo cX0_letGo 6 none rm_f0_letGo [.ref x0, .ref x1, .int x2, .int x3] h (PVw K) :=
  Ok.of RX0 rfl (by decide) ⟨rfl, rfl⟩ (Nat.le_of_ble_eq_true rfl) (fun x C => k_f0_letGo C x0 x1 x2 x3 kx0 kx1 h (fun _ q => ⟨rfl, q⟩) T)

abbrev rm_f0_growFalse : Room := { frames := 3, cells := 0, slots := 0, locals := 75 }
noncomputable def f0_growFalse_33 (s0 : Int32) (s1 : Int32) (s2 : Int32) (s3 : Nat) (h : Hp) : Option (Hp) :=
  lt (wI h s3 6 (if s1 + s0 < s2 then s1 + s0 else s2 : Int32)) fun h5 => some (h5)
set_option maxRecDepth 100000 in
set_option maxHeartbeats 4000000 in
theorem k_f0_growFalse_33 {x : Mx} {l : Launch} {post0 : Option Value → Hp → Prop} (C : Cx ΛC x l RX0 cX0_growFalse rm_f0_growFalse none 5 post0) {K : Hp → Prop} (s0 : Int32) (s1 : Int32) (s2 : Int32) (s3 : Nat) (ks3 : kdC s3 = 0) (h : Hp) (hR : ∀ h : Hp, K h → post0 none h) (T : Tt (f0_growFalse_33 s0 s1 s2 s3 h) K) : G ΛC x 33 [] [.int s0, .int s1, .int s2, .ref s3] h := by
  refine g_iadd C dX0_growFalse_33 ?_
  refine g_mmin C dX0_growFalse_34 mm_X0_61 ms_min mi_math mc_min (Nat.le_of_ble_eq_true rfl) (Nat.le_of_ble_eq_true rfl) ?_
  obtain ⟨h5, eh5, T⟩ := tt_lt T
  refine g_putI (k := 6) C dX0_growFalse_37 (hpC ks3 rfl) ks3 fp_X0_37 rfl eh5 ?_
  exact g_vret C dX0_growFalse_40 (hR _ (tt_some T))

noncomputable def f0_growFalse (x0 : Nat) (x1 : Nat) (x2 : Int32) (h : Hp) : Option (Hp) :=
  (f5_worth x1 1 x0 x2 h).bind fun (r1, h2) => if lg_cmp r1 (-9223372036854775808) = 0 then (f0_growFalse_33 1 (h2.1 x0 6) 99 x0 h2) else ((f0_hold r1 9).bind fun r4 => f0_growFalse_33 r4 (h2.1 x0 6) 99 x0 h2)
set_option maxRecDepth 100000 in
set_option maxHeartbeats 4000000 in
theorem k_f0_growFalse {x : Mx} {l : Launch} {post0 : Option Value → Hp → Prop} (C : Cx ΛC x l RX0 cX0_growFalse rm_f0_growFalse none 5 post0) {K : Hp → Prop} (x0 : Nat) (x1 : Nat) (x2 : Int32) (kx0 : kdC x0 = 0) (kx1 : kdC x1 = 5) (h : Hp) (hR : ∀ h : Hp, K h → post0 none h) (T : Tt (f0_growFalse x0 x1 x2 h) K) : G ΛC x 0 [(0, .ref x0), (1, .ref x1), (2, .int x2)] [] h := by
  refine g_aload_n (q := 1) C dX0_growFalse_0 rfl rfl ?_
  refine g_iconst (v := 1) C dX0_growFalse_1 (by decide) ?_
  refine g_aload_n (q := 0) C dX0_growFalse_2 rfl rfl ?_
  refine g_iload_n (q := 2) C dX0_growFalse_3 rfl rfl ?_
  refine g_callV (p := x1) (As := [.int 1, .ref x0, .int x2]) C dX0_growFalse_4 ml_X0_78 yv_f5_worth ⟨rfl, rfl⟩ ⟨Nat.le_of_ble_eq_true rfl, Nat.le_of_ble_eq_true rfl⟩ (hpC kx1 rfl) kx1 rfl rfl (Nat.le_of_ble_eq_true rfl) (ok_f5_worth x1 1 x0 x2 kx1 kx0 h (tt_bind T)) ?_
  rintro _ h2 ⟨r1, rfl, T⟩
  show G ΛC x 7 [(0, .ref x0), (1, .ref x1), (2, .int x2)] [.long r1] h2
  refine g_lstore_n (L' := [(3, .long r1), (0, .ref x0), (1, .ref x1), (2, .int x2)]) C dX0_growFalse_7 rfl (by decide) rfl ?_
  refine g_aload_n (q := 1) C dX0_growFalse_8 rfl rfl ?_
  refine g_bipush (v := 99) C dX0_growFalse_9 (by decide) ?_
  refine g_aload_n (q := 1) C dX0_growFalse_11 rfl rfl ?_
  refine g_getI (k := 6) C dX0_growFalse_12 (hpC kx0 rfl) kx0 fl_X0_37 rfl ?_
  refine g_lload_n (q := 0) C dX0_growFalse_15 rfl rfl ?_
  refine g_ldc2 (v := (-9223372036854775808)) C dX0_growFalse_16 kl_X0_84 ?_
  refine g_lcmp C dX0_growFalse_19 ?_
  refine g_if_ne (tgt := 27) C dX0_growFalse_20 (by decide) (fun c3 => ?_) (fun c3 => ?_)
  · have T := tt_f T c3
    refine g_lload_n (q := 0) C dX0_growFalse_27 rfl rfl ?_
    refine g_bipush (v := 9) C dX0_growFalse_28 (by decide) ?_
    refine g_callS (As := [.long r1, .int 9]) C dX0_growFalse_30 ml_X0_90 ys_f0_hold ⟨rfl, rfl⟩ ⟨Nat.le_of_ble_eq_true rfl, Nat.le_of_ble_eq_true rfl⟩ rfl rfl (Nat.le_of_ble_eq_true rfl) (ok_f0_hold r1 9 h2 (tt_bind T)) ?_
    rintro _ _ ⟨r4, rfl, rfl, T⟩
    show G ΛC x 33 [(3, .long r1), (0, .ref x0), (1, .ref x1), (2, .int x2)] [.int r4, .int (h2.1 x0 6), .int 99, .ref x0] h2
    refine g_sub [] rfl ?_
    exact k_f0_growFalse_33 C r4 (h2.1 x0 6) 99 x0 kx0 h2 hR T
  · have T := tt_t T c3
    refine g_iconst (v := 1) C dX0_growFalse_23 (by decide) ?_
    refine g_goto (tgt := 33) C dX0_growFalse_24 (by decide) ?_
    refine g_sub [] rfl ?_
    exact k_f0_growFalse_33 C 1 (h2.1 x0 6) 99 x0 kx0 h2 hR T

theorem ok_f0_growFalse {l : Launch} {K : Hp → Prop} (x0 : Nat) (x1 : Nat) (x2 : Int32) (kx0 : kdC x0 = 0) (kx1 : kdC x1 = 5) (h : Hp) (T : Tt (f0_growFalse x0 x1 x2 h) K) : Ok ΛC l yX0_growFalse cX0_growFalse 5 none rm_f0_growFalse [.ref x0, .ref x1, .int x2] h (PVw K) :=
  Ok.of RX0 rfl (by decide) ⟨rfl, rfl⟩ (Nat.le_of_ble_eq_true rfl) (fun x C => k_f0_growFalse C x0 x1 x2 kx0 kx1 h (fun _ q => ⟨rfl, q⟩) T)

abbrev rm_f0_goOneYear : Room := { frames := 4, cells := 0, slots := 0, locals := 100 }
noncomputable def f0_goOneYear_15 (x0 : Nat) (x1 : Nat) (x2 : Int32) (x3 : Int32) (h : Hp) : Option (Hp) :=
  if x3 = 0 then (some (h)) else ((f0_growFalse x0 x1 x2 h).bind fun h4 => some (h4))
set_option maxRecDepth 100000 in
set_option maxHeartbeats 4000000 in
theorem k_f0_goOneYear_15 {x : Mx} {l : Launch} {post0 : Option Value → Hp → Prop} (C : Cx ΛC x l RX0 cX0_goOneYear rm_f0_goOneYear none 5 post0) {K : Hp → Prop} (x0 : Nat) (x1 : Nat) (x2 : Int32) (x3 : Int32) (kx0 : kdC x0 = 0) (kx1 : kdC x1 = 5) (h : Hp) (hR : ∀ h : Hp, K h → post0 none h) (T : Tt (f0_goOneYear_15 x0 x1 x2 x3 h) K) : G ΛC x 15 [(0, .ref x0), (1, .ref x1), (2, .int x2), (3, .int x3)] [] h := by
  refine g_iload_n (q := 3) C dX0_goOneYear_15 rfl rfl ?_
  refine g_if_eq (tgt := 25) C dX0_goOneYear_16 (by decide) (fun c3 => ?_) (fun c3 => ?_)
  · have T := tt_t T c3
    exact g_vret C dX0_goOneYear_25 (hR _ (tt_some T))
  · have T := tt_f T c3
    refine g_aload_n (q := 0) C dX0_goOneYear_19 rfl rfl ?_
    refine g_aload_n (q := 1) C dX0_goOneYear_20 rfl rfl ?_
    refine g_iload_n (q := 2) C dX0_goOneYear_21 rfl rfl ?_
    refine g_callV (p := x0) (As := [.ref x1, .int x2]) C dX0_goOneYear_22 ml_X0_74 yv_f0_growFalse ⟨rfl, rfl⟩ ⟨Nat.le_of_ble_eq_true rfl, Nat.le_of_ble_eq_true rfl⟩ (hpC kx0 rfl) kx0 rfl rfl (Nat.le_of_ble_eq_true rfl) (ok_f0_growFalse x0 x1 x2 kx0 kx1 h (tt_bind T)) ?_
    rintro _ h4 ⟨rfl, T⟩
    show G ΛC x 25 [(0, .ref x0), (1, .ref x1), (2, .int x2), (3, .int x3)] [] h4
    exact g_vret C dX0_goOneYear_25 (hR _ (tt_some T))

noncomputable def f0_goOneYear (x0 : Nat) (x1 : Nat) (x2 : Int32) (x3 : Int32) (x4 : Int32) (h : Hp) : Option (Hp) :=
  (f0_isLetGo x0 h).bind fun r1 => if r1 = 0 then (f0_goOneYear_15 x0 x1 x2 x3 h) else ((f0_letGo x0 x1 x2 x4 h).bind fun h5 => f0_goOneYear_15 x0 x1 x2 x3 h5)
set_option maxRecDepth 100000 in
set_option maxHeartbeats 4000000 in
theorem k_f0_goOneYear {x : Mx} {l : Launch} {post0 : Option Value → Hp → Prop} (C : Cx ΛC x l RX0 cX0_goOneYear rm_f0_goOneYear none 5 post0) {K : Hp → Prop} (x0 : Nat) (x1 : Nat) (x2 : Int32) (x3 : Int32) (x4 : Int32) (kx0 : kdC x0 = 0) (kx1 : kdC x1 = 5) (h : Hp) (hR : ∀ h : Hp, K h → post0 none h) (T : Tt (f0_goOneYear x0 x1 x2 x3 x4 h) K) : G ΛC x 0 [(0, .ref x0), (1, .ref x1), (2, .int x2), (3, .int x3), (4, .int x4)] [] h := by
  refine g_aload_n (q := 0) C dX0_goOneYear_0 rfl rfl ?_
  refine g_callV (p := x0) (As := []) C dX0_goOneYear_1 ml_X0_66 yv_f0_isLetGo ⟨rfl, rfl⟩ ⟨Nat.le_of_ble_eq_true rfl, Nat.le_of_ble_eq_true rfl⟩ (hpC kx0 rfl) kx0 rfl rfl (Nat.le_of_ble_eq_true rfl) (ok_f0_isLetGo x0 kx0 h (tt_bind T)) ?_
  rintro _ _ ⟨r1, rfl, rfl, T⟩
  show G ΛC x 4 [(0, .ref x0), (1, .ref x1), (2, .int x2), (3, .int x3), (4, .int x4)] [.int r1] h
  refine g_if_eq (tgt := 15) C dX0_goOneYear_4 (by decide) (fun c2 => ?_) (fun c2 => ?_)
  · have T := tt_t T c2
    refine g_sub [0, 1, 2, 3] rfl ?_
    exact k_f0_goOneYear_15 C x0 x1 x2 x3 kx0 kx1 h hR T
  · have T := tt_f T c2
    refine g_aload_n (q := 0) C dX0_goOneYear_7 rfl rfl ?_
    refine g_aload_n (q := 1) C dX0_goOneYear_8 rfl rfl ?_
    refine g_iload_n (q := 2) C dX0_goOneYear_9 rfl rfl ?_
    refine g_iload (q := 4) C dX0_goOneYear_10 rfl ?_
    refine g_callV (p := x0) (As := [.ref x1, .int x2, .int x4]) C dX0_goOneYear_12 ml_X0_70 yv_f0_letGo ⟨rfl, rfl⟩ ⟨Nat.le_of_ble_eq_true rfl, Nat.le_of_ble_eq_true rfl⟩ (hpC kx0 rfl) kx0 rfl rfl (Nat.le_of_ble_eq_true rfl) (ok_f0_letGo x0 x1 x2 x4 kx0 kx1 h (tt_bind T)) ?_
    rintro _ h5 ⟨rfl, T⟩
    show G ΛC x 15 [(0, .ref x0), (1, .ref x1), (2, .int x2), (3, .int x3), (4, .int x4)] [] h5
    refine g_sub [0, 1, 2, 3] rfl ?_
    exact k_f0_goOneYear_15 C x0 x1 x2 x3 kx0 kx1 h5 hR T

theorem ok_f0_goOneYear {l : Launch} {K : Hp → Prop} (x0 : Nat) (x1 : Nat) (x2 : Int32) (x3 : Int32) (x4 : Int32) (kx0 : kdC x0 = 0) (kx1 : kdC x1 = 5) (h : Hp) (T : Tt (f0_goOneYear x0 x1 x2 x3 x4 h) K) : Ok ΛC l yX0_goOneYear cX0_goOneYear 5 none rm_f0_goOneYear [.ref x0, .ref x1, .int x2, .int x3, .int x4] h (PVw K) :=
  Ok.of RX0 rfl (by decide) ⟨rfl, rfl⟩ (Nat.le_of_ble_eq_true rfl) (fun x C => k_f0_goOneYear C x0 x1 x2 x3 x4 kx0 kx1 h (fun _ q => ⟨rfl, q⟩) T)

abbrev rm_f9_goOneYear : Room := { frames := 5, cells := 0, slots := 0, locals := 124 }
noncomputable def f9_goOneYear_76 (x0 : Nat) (h : Hp) : Option (Hp) :=
  lt (wI h x0 2 ((h.1 x0 2) + 1)) fun h6 => some (h6)
set_option maxRecDepth 100000 in
set_option maxHeartbeats 4000000 in
theorem k_f9_goOneYear_76 {x : Mx} {l : Launch} {post0 : Option Value → Hp → Prop} (C : Cx ΛC x l RX9 cX9_goOneYear rm_f9_goOneYear none 4 post0) {K : Hp → Prop} (x0 : Nat) (kx0 : kdC x0 = 9) (h : Hp) (hR : ∀ h : Hp, K h → post0 none h) (T : Tt (f9_goOneYear_76 x0 h) K) : G ΛC x 76 [(0, .ref x0)] [] h := by
  refine g_aload_n (q := 0) C dX9_goOneYear_76 rfl rfl ?_
  refine g_dup C dX9_goOneYear_77 rfl ?_
  refine g_getI (k := 2) C dX9_goOneYear_78 (hpC kx0 rfl) kx0 fl_X9_30 rfl ?_
  refine g_iconst (v := 1) C dX9_goOneYear_81 (by decide) ?_
  refine g_iadd C dX9_goOneYear_82 ?_
  obtain ⟨h6, eh6, T⟩ := tt_lt T
  refine g_putI (k := 2) C dX9_goOneYear_83 (hpC kx0 rfl) kx0 fp_X9_30 rfl eh6 ?_
  exact g_vret C dX9_goOneYear_86 (hR _ (tt_some T))

noncomputable def f9_goOneYear_62 (x0 : Nat) (x2 : Int32) (h : Hp) : Option (Hp) :=
  if x2 = 0 then (f9_goOneYear_76 x0 h) else (lt (wI h x0 4 ((h.1 x0 4) + 1)) fun h7 => f9_goOneYear_76 x0 h7)
set_option maxRecDepth 100000 in
set_option maxHeartbeats 4000000 in
theorem k_f9_goOneYear_62 {x : Mx} {l : Launch} {post0 : Option Value → Hp → Prop} (C : Cx ΛC x l RX9 cX9_goOneYear rm_f9_goOneYear none 4 post0) {K : Hp → Prop} (x0 : Nat) (x2 : Int32) (kx0 : kdC x0 = 9) (h : Hp) (hR : ∀ h : Hp, K h → post0 none h) (T : Tt (f9_goOneYear_62 x0 x2 h) K) : G ΛC x 62 [(0, .ref x0), (2, .int x2)] [] h := by
  refine g_iload_n (q := 1) C dX9_goOneYear_62 rfl rfl ?_
  refine g_if_eq (tgt := 76) C dX9_goOneYear_63 (by decide) (fun c5 => ?_) (fun c5 => ?_)
  · have T := tt_t T c5
    refine g_sub [0] rfl ?_
    exact k_f9_goOneYear_76 C x0 kx0 h hR T
  · have T := tt_f T c5
    refine g_aload_n (q := 0) C dX9_goOneYear_66 rfl rfl ?_
    refine g_dup C dX9_goOneYear_67 rfl ?_
    refine g_getI (k := 4) C dX9_goOneYear_68 (hpC kx0 rfl) kx0 fl_X9_39 rfl ?_
    refine g_iconst (v := 1) C dX9_goOneYear_71 (by decide) ?_
    refine g_iadd C dX9_goOneYear_72 ?_
    obtain ⟨h7, eh7, T⟩ := tt_lt T
    refine g_putI (k := 4) C dX9_goOneYear_73 (hpC kx0 rfl) kx0 fp_X9_39 rfl eh7 ?_
    refine g_sub [0] rfl ?_
    exact k_f9_goOneYear_76 C x0 kx0 h7 hR T

noncomputable def f9_goOneYear_29_s (x0 : Nat) (x1 : Nat) (x2 : Int32) (x3 : Int32) (h : Hp) : Option ((Int32 × Hp) ⊕ (Hp)) :=
  if h.1 x0 1 ≤ x3 then ((f9_goOneYear_62 x0 x2 h).map (fun z => .inr (z))) else (gd (inb x3 6) <| (f0_goOneYear (x0 + 1 + 1 + 2 * ix x3) (x1 + 14) (h.1 x0 2) x2 1 h).bind fun h9 => some (.inl (x3 + 1, h9)))
set_option maxRecDepth 100000 in
set_option maxHeartbeats 4000000 in
theorem k_f9_goOneYear_29_s {x : Mx} {l : Launch} {post0 : Option Value → Hp → Prop} (C : Cx ΛC x l RX9 cX9_goOneYear rm_f9_goOneYear none 4 post0) {K : (Int32 × Hp) ⊕ (Hp) → Prop} (x0 : Nat) (x1 : Nat) (x2 : Int32) (x3 : Int32) (kx0 : kdC x0 = 9) (kx1 : kdC x1 = 10) (h : Hp) (hR : ∀ h : Hp, K (.inr h) → post0 none h) (hL29 : ∀ (x3 : Int32) (h : Hp), K (.inl (x3, h)) → G ΛC x 29 [(0, .ref x0), (1, .ref x1), (2, .int x2), (3, .int x3)] [] h) (T : Tt (f9_goOneYear_29_s x0 x1 x2 x3 h) K) : G ΛC x 29 [(0, .ref x0), (1, .ref x1), (2, .int x2), (3, .int x3)] [] h := by
  refine g_iload_n (q := 3) C dX9_goOneYear_29 rfl rfl ?_
  refine g_aload_n (q := 0) C dX9_goOneYear_30 rfl rfl ?_
  refine g_getI (k := 1) C dX9_goOneYear_31 (hpC kx0 rfl) kx0 fl_X9_24 rfl ?_
  refine g_icmp_ge (tgt := 62) C dX9_goOneYear_34 (by decide) (fun c4 => ?_) (fun c4 => ?_)
  · have T := tt_t T c4
    refine g_sub [0, 2] rfl ?_
    exact k_f9_goOneYear_62 C x0 x2 kx0 h hR (tt_map T)
  · have T := tt_f T c4
    refine g_aload_n (q := 0) C dX9_goOneYear_37 rfl rfl ?_
    refine g_getF (k := 0) (q := x0 + 1) C dX9_goOneYear_38 (hpC kx0 rfl) kx0 fl_X9_11 rfl rfl ?_
    refine g_iload_n (q := 3) C dX9_goOneYear_41 rfl rfl ?_
    obtain ⟨g8, T⟩ := tt_gd T
    refine g_aald (q := x0 + 1 + 1 + 2 * ix x3) C dX9_goOneYear_42 (hpC (kf_9_0 kx0) rfl) (kf_9_0 kx0) (inb_of (lf_9_0 kx0) g8) rfl ?_
    refine g_aload_n (q := 1) C dX9_goOneYear_43 rfl rfl ?_
    refine g_getF (k := 1) (q := x1 + 14) C dX9_goOneYear_44 (hpC kx1 rfl) kx1 fl_X9_54 rfl rfl ?_
    refine g_aload_n (q := 0) C dX9_goOneYear_47 rfl rfl ?_
    refine g_getI (k := 2) C dX9_goOneYear_48 (hpC kx0 rfl) kx0 fl_X9_30 rfl ?_
    refine g_iload_n (q := 2) C dX9_goOneYear_51 rfl rfl ?_
    refine g_iconst (v := 1) C dX9_goOneYear_52 (by decide) ?_
    refine g_callV (p := (x0 + 1 + 1 + 2 * ix x3)) (As := [.ref (x1 + 14), .int (h.1 x0 2), .int x2, .int 1]) C dX9_goOneYear_53 ml_X9_58 yv_f0_goOneYear ⟨rfl, rfl⟩ ⟨Nat.le_of_ble_eq_true rfl, Nat.le_of_ble_eq_true rfl⟩ (hpC (kboxC (kf_9_0 kx0) g8) rfl) (kboxC (kf_9_0 kx0) g8) rfl rfl (Nat.le_of_ble_eq_true rfl) (ok_f0_goOneYear (x0 + 1 + 1 + 2 * ix x3) (x1 + 14) (h.1 x0 2) x2 1 (kboxC (kf_9_0 kx0) g8) (kf_10_1 kx1) h (tt_bind T)) ?_
    rintro _ h9 ⟨rfl, T⟩
    show G ΛC x 56 [(0, .ref x0), (1, .ref x1), (2, .int x2), (3, .int x3)] [] h9
    refine g_iinc (v := x3 + 1) (q := 3) (L' := [(3, .int (x3 + 1)), (0, .ref x0), (1, .ref x1), (2, .int x2)]) C dX9_goOneYear_56 rfl (by first | rfl | exact congrArg _ (by decide)) (by decide) rfl ?_
    refine g_goto (tgt := 29) C dX9_goOneYear_59 (by decide) ?_
    refine g_sub [1, 2, 3, 0] rfl ?_
    exact hL29 _ _ (tt_some T)

noncomputable def f9_goOneYear_29 (x0 : Nat) (x1 : Nat) (x2 : Int32) (x3 : Int32) (h : Hp) : Option (Hp) := lp (fun z : Int32 × Hp => f9_goOneYear_29_s x0 x1 x2 z.1 z.2) (x3, h)
theorem k_f9_goOneYear_29 {x : Mx} {l : Launch} {post0 : Option Value → Hp → Prop} (C : Cx ΛC x l RX9 cX9_goOneYear rm_f9_goOneYear none 4 post0) {K : Hp → Prop} (x0 : Nat) (x1 : Nat) (x2 : Int32) (x3 : Int32) (kx0 : kdC x0 = 9) (kx1 : kdC x1 = 10) (h : Hp) (hR : ∀ h : Hp, K h → post0 none h) (T : Tt (f9_goOneYear_29 x0 x1 x2 x3 h) K) : G ΛC x 29 [(0, .ref x0), (1, .ref x1), (2, .int x2), (3, .int x3)] [] h :=
  lp_ind (f := fun z : Int32 × Hp => f9_goOneYear_29_s x0 x1 x2 z.1 z.2) (P := fun z : Int32 × Hp => G ΛC x 29 [(0, .ref x0), (1, .ref x1), (2, .int x2), (3, .int z.1)] [] z.2) (K := K) (fun z T => k_f9_goOneYear_29_s C (K := KS (fun z : Int32 × Hp => G ΛC x 29 [(0, .ref x0), (1, .ref x1), (2, .int x2), (3, .int z.1)] [] z.2) K) x0 x1 x2 z.1 kx0 kx1 z.2 hR (fun _ _ q => q) T) (x3, h) T
noncomputable def f9_goOneYear_18 (x0 : Nat) (x1 : Nat) (h : Hp) : Option (Hp) :=
  (f10_isDampBy x1 (h.1 x0 3) h).bind fun r3 => f9_goOneYear_29 x0 x1 r3 0 h
set_option maxRecDepth 100000 in
set_option maxHeartbeats 4000000 in
theorem k_f9_goOneYear_18 {x : Mx} {l : Launch} {post0 : Option Value → Hp → Prop} (C : Cx ΛC x l RX9 cX9_goOneYear rm_f9_goOneYear none 4 post0) {K : Hp → Prop} (x0 : Nat) (x1 : Nat) (kx0 : kdC x0 = 9) (kx1 : kdC x1 = 10) (h : Hp) (hR : ∀ h : Hp, K h → post0 none h) (T : Tt (f9_goOneYear_18 x0 x1 h) K) : G ΛC x 18 [(0, .ref x0), (1, .ref x1)] [] h := by
  refine g_aload_n (q := 1) C dX9_goOneYear_18 rfl rfl ?_
  refine g_aload_n (q := 0) C dX9_goOneYear_19 rfl rfl ?_
  refine g_getI (k := 3) C dX9_goOneYear_20 (hpC kx0 rfl) kx0 fl_X9_36 rfl ?_
  refine g_callV (p := x1) (As := [.int (h.1 x0 3)]) C dX9_goOneYear_23 ml_X9_50 yv_f10_isDampBy ⟨rfl, rfl⟩ ⟨Nat.le_of_ble_eq_true rfl, Nat.le_of_ble_eq_true rfl⟩ (hpC kx1 rfl) kx1 rfl rfl (Nat.le_of_ble_eq_true rfl) (ok_f10_isDampBy x1 (h.1 x0 3) kx1 h (tt_bind T)) ?_
  rintro _ _ ⟨r3, rfl, rfl, T⟩
  show G ΛC x 26 [(0, .ref x0), (1, .ref x1)] [.int r3] h
  refine g_istore_n (L' := [(2, .int r3), (0, .ref x0), (1, .ref x1)]) C dX9_goOneYear_26 rfl (by decide) rfl ?_
  refine g_iconst (v := 0) C dX9_goOneYear_27 (by decide) ?_
  refine g_istore_n (L' := [(3, .int 0), (2, .int r3), (0, .ref x0), (1, .ref x1)]) C dX9_goOneYear_28 rfl (by decide) rfl ?_
  refine g_sub [2, 3, 1, 0] rfl ?_
  exact k_f9_goOneYear_29 C x0 x1 r3 0 kx0 kx1 h hR T

noncomputable def f9_goOneYear (x0 : Nat) (x1 : Nat) (h : Hp) : Option (Hp) :=
  (f10_isDrawn x1 h).bind fun r1 => if r1 = 0 then (f9_goOneYear_18 x0 x1 h) else ((f9_nextNumber (h.1 x0 3)).bind fun r10 => lt (wI h x0 3 r10) fun h11 => f9_goOneYear_18 x0 x1 h11)
set_option maxRecDepth 100000 in
set_option maxHeartbeats 4000000 in
theorem k_f9_goOneYear {x : Mx} {l : Launch} {post0 : Option Value → Hp → Prop} (C : Cx ΛC x l RX9 cX9_goOneYear rm_f9_goOneYear none 4 post0) {K : Hp → Prop} (x0 : Nat) (x1 : Nat) (kx0 : kdC x0 = 9) (kx1 : kdC x1 = 10) (h : Hp) (hR : ∀ h : Hp, K h → post0 none h) (T : Tt (f9_goOneYear x0 x1 h) K) : G ΛC x 0 [(0, .ref x0), (1, .ref x1)] [] h := by
  refine g_aload_n (q := 1) C dX9_goOneYear_0 rfl rfl ?_
  refine g_callV (p := x1) (As := []) C dX9_goOneYear_1 ml_X9_42 yv_f10_isDrawn ⟨rfl, rfl⟩ ⟨Nat.le_of_ble_eq_true rfl, Nat.le_of_ble_eq_true rfl⟩ (hpC kx1 rfl) kx1 rfl rfl (Nat.le_of_ble_eq_true rfl) (ok_f10_isDrawn x1 kx1 h (tt_bind T)) ?_
  rintro _ _ ⟨r1, rfl, rfl, T⟩
  show G ΛC x 4 [(0, .ref x0), (1, .ref x1)] [.int r1] h
  refine g_if_eq (tgt := 18) C dX9_goOneYear_4 (by decide) (fun c2 => ?_) (fun c2 => ?_)
  · have T := tt_t T c2
    exact k_f9_goOneYear_18 C x0 x1 kx0 kx1 h hR T
  · have T := tt_f T c2
    refine g_aload_n (q := 0) C dX9_goOneYear_7 rfl rfl ?_
    refine g_aload_n (q := 0) C dX9_goOneYear_8 rfl rfl ?_
    refine g_getI (k := 3) C dX9_goOneYear_9 (hpC kx0 rfl) kx0 fl_X9_36 rfl ?_
    refine g_callS (As := [.int (h.1 x0 3)]) C dX9_goOneYear_12 ml_X9_46 ys_f9_nextNumber ⟨rfl, rfl⟩ ⟨Nat.le_of_ble_eq_true rfl, Nat.le_of_ble_eq_true rfl⟩ rfl rfl (Nat.le_of_ble_eq_true rfl) (ok_f9_nextNumber (h.1 x0 3) h (tt_bind T)) ?_
    rintro _ _ ⟨r10, rfl, rfl, T⟩
    show G ΛC x 15 [(0, .ref x0), (1, .ref x1)] [.int r10, .ref x0] h
    obtain ⟨h11, eh11, T⟩ := tt_lt T
    refine g_putI (k := 3) C dX9_goOneYear_15 (hpC kx0 rfl) kx0 fp_X9_36 rfl eh11 ?_
    exact k_f9_goOneYear_18 C x0 x1 kx0 kx1 h11 hR T

theorem ok_f9_goOneYear {l : Launch} {K : Hp → Prop} (x0 : Nat) (x1 : Nat) (kx0 : kdC x0 = 9) (kx1 : kdC x1 = 10) (h : Hp) (T : Tt (f9_goOneYear x0 x1 h) K) : Ok ΛC l yX9_goOneYear cX9_goOneYear 4 none rm_f9_goOneYear [.ref x0, .ref x1] h (PVw K) :=
  Ok.of RX9 rfl (by decide) ⟨rfl, rfl⟩ (Nat.le_of_ble_eq_true rfl) (fun x C => k_f9_goOneYear C x0 x1 kx0 kx1 h (fun _ q => ⟨rfl, q⟩) T)

abbrev rm_f2_listen : Room := { frames := 3, cells := 0, slots := 0, locals := 65 }
noncomputable def f2_listen_45 (x1 : Nat) (x2 : Int32) (h : Hp) : Option ((Int32 × Hp) ⊕ (Hp)) :=
  some (.inl (x2 + 1, h))
set_option maxRecDepth 100000 in
set_option maxHeartbeats 4000000 in
theorem k_f2_listen_45 {x : Mx} {l : Launch} {post0 : Option Value → Hp → Prop} (C : Cx ΛC x l RX2 cX2_listen rm_f2_listen none 4 post0) {K : (Int32 × Hp) ⊕ (Hp) → Prop} (x1 : Nat) (x2 : Int32) (kx1 : kdC x1 = 9) (h : Hp) (hR : ∀ h : Hp, K (.inr h) → post0 none h) (hL2 : ∀ (x2 : Int32) (h : Hp), K (.inl (x2, h)) → G ΛC x 2 [(0, .ref 45), (1, .ref x1), (2, .int x2)] [] h) (T : Tt (f2_listen_45 x1 x2 h) K) : G ΛC x 45 [(0, .ref 45), (1, .ref x1), (2, .int x2)] [] h := by
  refine g_iinc (v := x2 + 1) (q := 2) (L' := [(2, .int (x2 + 1)), (0, .ref 45), (1, .ref x1)]) C dX2_listen_45 rfl (by first | rfl | exact congrArg _ (by decide)) (by decide) rfl ?_
  refine g_goto (tgt := 2) C dX2_listen_48 (by decide) ?_
  refine g_sub [1, 2, 0] rfl ?_
  exact hL2 _ _ (tt_some T)

noncomputable def f2_listen_12_s (x1 : Nat) (x2 : Int32) (x3 : Int32) (h : Hp) : Option ((Int32 × Hp) ⊕ ((Int32 × Hp) ⊕ (Hp))) :=
  if 8 ≤ x3 then ((f2_listen_45 x1 x2 h).map (fun z => .inr (z))) else (gd (inb x2 6) <| (f0_heardNow (x1 + 1 + 1 + 2 * ix x2) x3 h).bind fun r4 => gd (inb ((x2 * 8) + x3) 48) <| lt (wI h 46 (ix ((x2 * 8) + x3)) r4) fun h6 => some (.inl (x3 + 1, h6)))
set_option maxRecDepth 100000 in
set_option maxHeartbeats 4000000 in
theorem k_f2_listen_12_s {x : Mx} {l : Launch} {post0 : Option Value → Hp → Prop} (C : Cx ΛC x l RX2 cX2_listen rm_f2_listen none 4 post0) {K : (Int32 × Hp) ⊕ ((Int32 × Hp) ⊕ (Hp)) → Prop} (x1 : Nat) (x2 : Int32) (x3 : Int32) (kx1 : kdC x1 = 9) (h : Hp) (hR : ∀ h : Hp, K (.inr (.inr h)) → post0 none h) (hL2 : ∀ (x2 : Int32) (h : Hp), K (.inr (.inl (x2, h))) → G ΛC x 2 [(0, .ref 45), (1, .ref x1), (2, .int x2)] [] h) (hL12 : ∀ (x3 : Int32) (h : Hp), K (.inl (x3, h)) → G ΛC x 12 [(0, .ref 45), (1, .ref x1), (2, .int x2), (3, .int x3)] [] h) (T : Tt (f2_listen_12_s x1 x2 x3 h) K) : G ΛC x 12 [(0, .ref 45), (1, .ref x1), (2, .int x2), (3, .int x3)] [] h := by
  refine g_iload_n (q := 3) C dX2_listen_12 rfl rfl ?_
  refine g_bipush (v := 8) C dX2_listen_13 (by decide) ?_
  refine g_icmp_ge (tgt := 45) C dX2_listen_15 (by decide) (fun c2 => ?_) (fun c2 => ?_)
  · have T := tt_t T c2
    refine g_sub [0, 1, 2] rfl ?_
    exact k_f2_listen_45 C x1 x2 kx1 h hR hL2 (tt_map T)
  · have T := tt_f T c2
    refine g_aload_n (q := 0) C dX2_listen_18 rfl rfl ?_
    refine g_getF (k := 0) (q := 46) C dX2_listen_19 (hpC rfl rfl) rfl fl_X2_9 rfl rfl ?_
    refine g_iload_n (q := 2) C dX2_listen_22 rfl rfl ?_
    refine g_bipush (v := 8) C dX2_listen_23 (by decide) ?_
    refine g_imul C dX2_listen_25 ?_
    refine g_iload_n (q := 3) C dX2_listen_26 rfl rfl ?_
    refine g_iadd C dX2_listen_27 ?_
    refine g_aload_n (q := 1) C dX2_listen_28 rfl rfl ?_
    refine g_getF (k := 0) (q := x1 + 1) C dX2_listen_29 (hpC kx1 rfl) kx1 fl_X2_21 rfl rfl ?_
    refine g_iload_n (q := 2) C dX2_listen_32 rfl rfl ?_
    obtain ⟨g3, T⟩ := tt_gd T
    refine g_aald (q := x1 + 1 + 1 + 2 * ix x2) C dX2_listen_33 (hpC (kf_9_0 kx1) rfl) (kf_9_0 kx1) (inb_of (lf_9_0 kx1) g3) rfl ?_
    refine g_iload_n (q := 3) C dX2_listen_34 rfl rfl ?_
    refine g_callV (p := (x1 + 1 + 1 + 2 * ix x2)) (As := [.int x3]) C dX2_listen_35 ml_X2_25 yv_f0_heardNow ⟨rfl, rfl⟩ ⟨Nat.le_of_ble_eq_true rfl, Nat.le_of_ble_eq_true rfl⟩ (hpC (kboxC (kf_9_0 kx1) g3) rfl) (kboxC (kf_9_0 kx1) g3) rfl rfl (Nat.le_of_ble_eq_true rfl) (ok_f0_heardNow (x1 + 1 + 1 + 2 * ix x2) x3 (kboxC (kf_9_0 kx1) g3) h (tt_bind T)) ?_
    rintro _ _ ⟨r4, rfl, rfl, T⟩
    show G ΛC x 38 [(0, .ref 45), (1, .ref x1), (2, .int x2), (3, .int x3)] [.int r4, .int ((x2 * 8) + x3), .ref 46] h
    obtain ⟨g5, T⟩ := tt_gd T
    obtain ⟨h6, eh6, T⟩ := tt_lt T
    refine g_iast C dX2_listen_38 (hpC rfl rfl) rfl (inb_of rfl g5) eh6 ?_
    refine g_iinc (v := x3 + 1) (q := 3) (L' := [(3, .int (x3 + 1)), (0, .ref 45), (1, .ref x1), (2, .int x2)]) C dX2_listen_39 rfl (by first | rfl | exact congrArg _ (by decide)) (by decide) rfl ?_
    refine g_goto (tgt := 12) C dX2_listen_42 (by decide) ?_
    refine g_sub [1, 2, 3, 0] rfl ?_
    exact hL12 _ _ (tt_some T)

noncomputable def f2_listen_12 (x1 : Nat) (x2 : Int32) (x3 : Int32) (h : Hp) : Option ((Int32 × Hp) ⊕ (Hp)) := lp (fun z : Int32 × Hp => f2_listen_12_s x1 x2 z.1 z.2) (x3, h)
theorem k_f2_listen_12 {x : Mx} {l : Launch} {post0 : Option Value → Hp → Prop} (C : Cx ΛC x l RX2 cX2_listen rm_f2_listen none 4 post0) {K : (Int32 × Hp) ⊕ (Hp) → Prop} (x1 : Nat) (x2 : Int32) (x3 : Int32) (kx1 : kdC x1 = 9) (h : Hp) (hR : ∀ h : Hp, K (.inr h) → post0 none h) (hL2 : ∀ (x2 : Int32) (h : Hp), K (.inl (x2, h)) → G ΛC x 2 [(0, .ref 45), (1, .ref x1), (2, .int x2)] [] h) (T : Tt (f2_listen_12 x1 x2 x3 h) K) : G ΛC x 12 [(0, .ref 45), (1, .ref x1), (2, .int x2), (3, .int x3)] [] h :=
  lp_ind (f := fun z : Int32 × Hp => f2_listen_12_s x1 x2 z.1 z.2) (P := fun z : Int32 × Hp => G ΛC x 12 [(0, .ref 45), (1, .ref x1), (2, .int x2), (3, .int z.1)] [] z.2) (K := K) (fun z T => k_f2_listen_12_s C (K := KS (fun z : Int32 × Hp => G ΛC x 12 [(0, .ref 45), (1, .ref x1), (2, .int x2), (3, .int z.1)] [] z.2) K) x1 x2 z.1 kx1 z.2 hR hL2 (fun _ _ q => q) T) (x3, h) T
noncomputable def f2_listen_2_s (x1 : Nat) (x2 : Int32) (h : Hp) : Option ((Int32 × Hp) ⊕ (Hp)) :=
  if h.1 x1 1 ≤ x2 then (some (.inr (h))) else (f2_listen_12 x1 x2 0 h)
set_option maxRecDepth 100000 in
set_option maxHeartbeats 4000000 in
theorem k_f2_listen_2_s {x : Mx} {l : Launch} {post0 : Option Value → Hp → Prop} (C : Cx ΛC x l RX2 cX2_listen rm_f2_listen none 4 post0) {K : (Int32 × Hp) ⊕ (Hp) → Prop} (x1 : Nat) (x2 : Int32) (kx1 : kdC x1 = 9) (h : Hp) (hR : ∀ h : Hp, K (.inr h) → post0 none h) (hL2 : ∀ (x2 : Int32) (h : Hp), K (.inl (x2, h)) → G ΛC x 2 [(0, .ref 45), (1, .ref x1), (2, .int x2)] [] h) (T : Tt (f2_listen_2_s x1 x2 h) K) : G ΛC x 2 [(0, .ref 45), (1, .ref x1), (2, .int x2)] [] h := by
  refine g_iload_n (q := 2) C dX2_listen_2 rfl rfl ?_
  refine g_aload_n (q := 1) C dX2_listen_3 rfl rfl ?_
  refine g_getI (k := 1) C dX2_listen_4 (hpC kx1 rfl) kx1 fl_X2_15 rfl ?_
  refine g_icmp_ge (tgt := 51) C dX2_listen_7 (by decide) (fun c1 => ?_) (fun c1 => ?_)
  · have T := tt_t T c1
    exact g_vret C dX2_listen_51 (hR _ (tt_some T))
  · have T := tt_f T c1
    refine g_iconst (v := 0) C dX2_listen_10 (by decide) ?_
    refine g_istore_n (L' := [(3, .int 0), (0, .ref 45), (1, .ref x1), (2, .int x2)]) C dX2_listen_11 rfl (by decide) rfl ?_
    refine g_sub [1, 2, 3, 0] rfl ?_
    exact k_f2_listen_12 C x1 x2 0 kx1 h hR hL2 T

noncomputable def f2_listen_2 (x1 : Nat) (x2 : Int32) (h : Hp) : Option (Hp) := lp (fun z : Int32 × Hp => f2_listen_2_s x1 z.1 z.2) (x2, h)
theorem k_f2_listen_2 {x : Mx} {l : Launch} {post0 : Option Value → Hp → Prop} (C : Cx ΛC x l RX2 cX2_listen rm_f2_listen none 4 post0) {K : Hp → Prop} (x1 : Nat) (x2 : Int32) (kx1 : kdC x1 = 9) (h : Hp) (hR : ∀ h : Hp, K h → post0 none h) (T : Tt (f2_listen_2 x1 x2 h) K) : G ΛC x 2 [(0, .ref 45), (1, .ref x1), (2, .int x2)] [] h :=
  lp_ind (f := fun z : Int32 × Hp => f2_listen_2_s x1 z.1 z.2) (P := fun z : Int32 × Hp => G ΛC x 2 [(0, .ref 45), (1, .ref x1), (2, .int z.1)] [] z.2) (K := K) (fun z T => k_f2_listen_2_s C (K := KS (fun z : Int32 × Hp => G ΛC x 2 [(0, .ref 45), (1, .ref x1), (2, .int z.1)] [] z.2) K) x1 z.1 kx1 z.2 hR (fun _ _ q => q) T) (x2, h) T
noncomputable def f2_listen (x1 : Nat) (h : Hp) : Option (Hp) :=
  f2_listen_2 x1 0 h
set_option maxRecDepth 100000 in
set_option maxHeartbeats 4000000 in
theorem k_f2_listen {x : Mx} {l : Launch} {post0 : Option Value → Hp → Prop} (C : Cx ΛC x l RX2 cX2_listen rm_f2_listen none 4 post0) {K : Hp → Prop} (x1 : Nat) (kx1 : kdC x1 = 9) (h : Hp) (hR : ∀ h : Hp, K h → post0 none h) (T : Tt (f2_listen x1 h) K) : G ΛC x 0 [(0, .ref 45), (1, .ref x1)] [] h := by
  refine g_iconst (v := 0) C dX2_listen_0 (by decide) ?_
  refine g_istore_n (L' := [(2, .int 0), (0, .ref 45), (1, .ref x1)]) C dX2_listen_1 rfl (by decide) rfl ?_
  refine g_sub [1, 2, 0] rfl ?_
  exact k_f2_listen_2 C x1 0 kx1 h hR T

theorem ok_f2_listen {l : Launch} {K : Hp → Prop} (x1 : Nat) (kx1 : kdC x1 = 9) (h : Hp) (T : Tt (f2_listen x1 h) K) : Ok ΛC l yX2_listen cX2_listen 4 none rm_f2_listen [.ref 45, .ref x1] h (PVw K) :=
  Ok.of RX2 rfl (by decide) ⟨rfl, rfl⟩ (Nat.le_of_ble_eq_true rfl) (fun x C => k_f2_listen C x1 kx1 h (fun _ q => ⟨rfl, q⟩) T)

abbrev rm_f2_at : Room := { frames := 0, cells := 0, slots := 0, locals := 0 }
noncomputable def f2_at (x1 : Int32) (x2 : Int32) (h : Hp) : Option (Int32) :=
  gd (inb ((x1 * 8) + x2) 48) <| some (h.1 46 (ix ((x1 * 8) + x2)))
set_option maxRecDepth 100000 in
set_option maxHeartbeats 4000000 in
theorem k_f2_at {x : Mx} {l : Launch} {post0 : Option Value → Hp → Prop} (C : Cx ΛC x l RX2 cX2_at rm_f2_at (some .int) 3 post0) {K : Int32 → Prop} (x1 : Int32) (x2 : Int32) (h : Hp) (hR : ∀ v : Int32, K v → post0 (some (.int v)) h) (T : Tt (f2_at x1 x2 h) K) : G ΛC x 0 [(0, .ref 45), (1, .int x1), (2, .int x2)] [] h := by
  refine g_aload_n (q := 0) C dX2_at_0 rfl rfl ?_
  refine g_getF (k := 0) (q := 46) C dX2_at_1 (hpC rfl rfl) rfl fl_X2_9 rfl rfl ?_
  refine g_iload_n (q := 1) C dX2_at_4 rfl rfl ?_
  refine g_bipush (v := 8) C dX2_at_5 (by decide) ?_
  refine g_imul C dX2_at_7 ?_
  refine g_iload_n (q := 2) C dX2_at_8 rfl rfl ?_
  refine g_iadd C dX2_at_9 ?_
  obtain ⟨g1, T⟩ := tt_gd T
  refine g_iald C dX2_at_10 (hpC rfl rfl) rfl (inb_of rfl g1) ?_
  exact g_iret C dX2_at_11 (hR _ (tt_some T))

theorem ok_f2_at {l : Launch} {K : Int32 → Prop} (x1 : Int32) (x2 : Int32) (h : Hp) (T : Tt (f2_at x1 x2 h) K) : Ok ΛC l yX2_at cX2_at 3 (some .int) rm_f2_at [.ref 45, .int x1, .int x2] h (PIs K h) :=
  Ok.of RX2 rfl (by decide) ⟨rfl, rfl⟩ (Nat.le_of_ble_eq_true rfl) (fun x C => k_f2_at C x1 x2 h (fun v q => ⟨v, rfl, rfl, q⟩) T)

abbrev rm_f2_sameAbove : Room := { frames := 1, cells := 0, slots := 0, locals := 22 }
noncomputable def f2_sameAbove_29 (h : Hp) : Option (Int32) :=
  some 0
set_option maxRecDepth 100000 in
set_option maxHeartbeats 4000000 in
theorem k_f2_sameAbove_29 {x : Mx} {l : Launch} {post0 : Option Value → Hp → Prop} (C : Cx ΛC x l RX2 cX2_sameAbove rm_f2_sameAbove (some .boolean) 5 post0) {K : Int32 → Prop} (h : Hp) (hR : ∀ v : Int32, K v → post0 (some (.int v)) h) (T : Tt (f2_sameAbove_29 h) K) : G ΛC x 29 [] [] h := by
  refine g_iconst (v := 0) C dX2_sameAbove_29 (by decide) ?_
  exact g_zret C dX2_sameAbove_30 (Or.inl rfl) (hR _ (tt_some T))

noncomputable def f2_sameAbove (x1 : Int32) (x2 : Int32) (x3 : Int32) (x4 : Int32) (h : Hp) : Option (Int32) :=
  (f2_at x1 x2 h).bind fun r1 => if r1 ≤ 0 then (f2_sameAbove_29 h) else ((f2_at x1 x2 h).bind fun r3 => (f2_at x3 x4 h).bind fun r4 => if r3 = r4 then (some 1) else (f2_sameAbove_29 h))
set_option maxRecDepth 100000 in
set_option maxHeartbeats 4000000 in
theorem k_f2_sameAbove {x : Mx} {l : Launch} {post0 : Option Value → Hp → Prop} (C : Cx ΛC x l RX2 cX2_sameAbove rm_f2_sameAbove (some .boolean) 5 post0) {K : Int32 → Prop} (x1 : Int32) (x2 : Int32) (x3 : Int32) (x4 : Int32) (h : Hp) (hR : ∀ v : Int32, K v → post0 (some (.int v)) h) (T : Tt (f2_sameAbove x1 x2 x3 x4 h) K) : G ΛC x 0 [(0, .ref 45), (1, .int x1), (2, .int x2), (3, .int x3), (4, .int x4)] [] h := by
  refine g_aload_n (q := 0) C dX2_sameAbove_0 rfl rfl ?_
  refine g_iload_n (q := 1) C dX2_sameAbove_1 rfl rfl ?_
  refine g_iload_n (q := 2) C dX2_sameAbove_2 rfl rfl ?_
  refine g_callV (p := 45) (As := [.int x1, .int x2]) C dX2_sameAbove_3 ml_X2_31 yv_f2_at ⟨rfl, rfl⟩ ⟨Nat.le_of_ble_eq_true rfl, Nat.le_of_ble_eq_true rfl⟩ (hpC rfl rfl) rfl rfl rfl (Nat.le_of_ble_eq_true rfl) (ok_f2_at x1 x2 h (tt_bind T)) ?_
  rintro _ _ ⟨r1, rfl, rfl, T⟩
  show G ΛC x 6 [(0, .ref 45), (1, .int x1), (2, .int x2), (3, .int x3), (4, .int x4)] [.int r1] h
  refine g_if_le (tgt := 29) C dX2_sameAbove_6 (by decide) (fun c2 => ?_) (fun c2 => ?_)
  · have T := tt_t T c2
    refine g_sub [] rfl ?_
    exact k_f2_sameAbove_29 C h hR T
  · have T := tt_f T c2
    refine g_aload_n (q := 0) C dX2_sameAbove_9 rfl rfl ?_
    refine g_iload_n (q := 1) C dX2_sameAbove_10 rfl rfl ?_
    refine g_iload_n (q := 2) C dX2_sameAbove_11 rfl rfl ?_
    refine g_callV (p := 45) (As := [.int x1, .int x2]) C dX2_sameAbove_12 ml_X2_31 yv_f2_at ⟨rfl, rfl⟩ ⟨Nat.le_of_ble_eq_true rfl, Nat.le_of_ble_eq_true rfl⟩ (hpC rfl rfl) rfl rfl rfl (Nat.le_of_ble_eq_true rfl) (ok_f2_at x1 x2 h (tt_bind T)) ?_
    rintro _ _ ⟨r3, rfl, rfl, T⟩
    show G ΛC x 15 [(0, .ref 45), (1, .int x1), (2, .int x2), (3, .int x3), (4, .int x4)] [.int r3] h
    refine g_aload_n (q := 0) C dX2_sameAbove_15 rfl rfl ?_
    refine g_iload_n (q := 3) C dX2_sameAbove_16 rfl rfl ?_
    refine g_iload (q := 4) C dX2_sameAbove_17 rfl ?_
    refine g_callV (p := 45) (As := [.int x3, .int x4]) C dX2_sameAbove_19 ml_X2_31 yv_f2_at ⟨rfl, rfl⟩ ⟨Nat.le_of_ble_eq_true rfl, Nat.le_of_ble_eq_true rfl⟩ (hpC rfl rfl) rfl rfl rfl (Nat.le_of_ble_eq_true rfl) (ok_f2_at x3 x4 h (tt_bind T)) ?_
    rintro _ _ ⟨r4, rfl, rfl, T⟩
    show G ΛC x 22 [(0, .ref 45), (1, .int x1), (2, .int x2), (3, .int x3), (4, .int x4)] [.int r4, .int r3] h
    refine g_icmp_ne (tgt := 29) C dX2_sameAbove_22 (by decide) (fun c5 => ?_) (fun c5 => ?_)
    · have T := tt_f T c5
      refine g_sub [] rfl ?_
      exact k_f2_sameAbove_29 C h hR T
    · have T := tt_t T c5
      refine g_iconst (v := 1) C dX2_sameAbove_25 (by decide) ?_
      refine g_goto (tgt := 30) C dX2_sameAbove_26 (by decide) ?_
      exact g_zret C dX2_sameAbove_30 (Or.inr rfl) (hR _ (tt_some T))

theorem ok_f2_sameAbove {l : Launch} {K : Int32 → Prop} (x1 : Int32) (x2 : Int32) (x3 : Int32) (x4 : Int32) (h : Hp) (T : Tt (f2_sameAbove x1 x2 x3 x4 h) K) : Ok ΛC l yX2_sameAbove cX2_sameAbove 5 (some .boolean) rm_f2_sameAbove [.ref 45, .int x1, .int x2, .int x3, .int x4] h (PIs K h) :=
  Ok.of RX2 rfl (by decide) ⟨rfl, rfl⟩ (Nat.le_of_ble_eq_true rfl) (fun x C => k_f2_sameAbove C x1 x2 x3 x4 h (fun v q => ⟨v, rfl, rfl, q⟩) T)

abbrev rm_f2_alikeBy : Room := { frames := 2, cells := 0, slots := 0, locals := 46 }
noncomputable def f2_alikeBy_34 (x1 : Int32) (x2 : Int32) (x3 : Int32) (x4 : Int32) (x5 : Int32) (h : Hp) : Option ((Int32 × Int32) ⊕ (Int32)) :=
  some (.inl (x4, x5 + 1))
set_option maxRecDepth 100000 in
set_option maxHeartbeats 4000000 in
theorem k_f2_alikeBy_34 {x : Mx} {l : Launch} {post0 : Option Value → Hp → Prop} (C : Cx ΛC x l RX2 cX2_alikeBy rm_f2_alikeBy (some .int) 6 post0) {K : (Int32 × Int32) ⊕ (Int32) → Prop} (x1 : Int32) (x2 : Int32) (x3 : Int32) (x4 : Int32) (x5 : Int32) (h : Hp) (hR : ∀ v : Int32, K (.inr v) → post0 (some (.int v)) h) (hL6 : ∀ (x4 : Int32) (x5 : Int32), K (.inl (x4, x5)) → G ΛC x 6 [(0, .ref 45), (1, .int x1), (2, .int x2), (3, .int x3), (4, .int x4), (5, .int x5)] [] h) (T : Tt (f2_alikeBy_34 x1 x2 x3 x4 x5 h) K) : G ΛC x 34 [(0, .ref 45), (1, .int x1), (2, .int x2), (3, .int x3), (4, .int x4), (5, .int x5)] [] h := by
  refine g_iinc (v := x5 + 1) (q := 5) (L' := [(5, .int (x5 + 1)), (0, .ref 45), (1, .int x1), (2, .int x2), (3, .int x3), (4, .int x4)]) C dX2_alikeBy_34 rfl (by first | rfl | exact congrArg _ (by decide)) (by decide) rfl ?_
  refine g_goto (tgt := 6) C dX2_alikeBy_37 (by decide) ?_
  refine g_sub [1, 2, 3, 4, 5, 0] rfl ?_
  exact hL6 _ _ (tt_some T)

noncomputable def f2_alikeBy_6_s (x1 : Int32) (x2 : Int32) (x3 : Int32) (x4 : Int32) (x5 : Int32) (h : Hp) : Option ((Int32 × Int32) ⊕ (Int32)) :=
  if 8 ≤ x5 then (some (.inr x4)) else ((f2_sameAbove x1 x5 x2 ((x5 + x3) - (x5 + x3) / 8 * 8) h).bind fun r2 => if r2 = 0 then (f2_alikeBy_34 x1 x2 x3 x4 x5 h) else (f2_alikeBy_34 x1 x2 x3 (x4 + 1) x5 h))
set_option maxRecDepth 100000 in
set_option maxHeartbeats 4000000 in
theorem k_f2_alikeBy_6_s {x : Mx} {l : Launch} {post0 : Option Value → Hp → Prop} (C : Cx ΛC x l RX2 cX2_alikeBy rm_f2_alikeBy (some .int) 6 post0) {K : (Int32 × Int32) ⊕ (Int32) → Prop} (x1 : Int32) (x2 : Int32) (x3 : Int32) (x4 : Int32) (x5 : Int32) (h : Hp) (hR : ∀ v : Int32, K (.inr v) → post0 (some (.int v)) h) (hL6 : ∀ (x4 : Int32) (x5 : Int32), K (.inl (x4, x5)) → G ΛC x 6 [(0, .ref 45), (1, .int x1), (2, .int x2), (3, .int x3), (4, .int x4), (5, .int x5)] [] h) (T : Tt (f2_alikeBy_6_s x1 x2 x3 x4 x5 h) K) : G ΛC x 6 [(0, .ref 45), (1, .int x1), (2, .int x2), (3, .int x3), (4, .int x4), (5, .int x5)] [] h := by
  refine g_iload (q := 5) C dX2_alikeBy_6 rfl ?_
  refine g_bipush (v := 8) C dX2_alikeBy_8 (by decide) ?_
  refine g_icmp_ge (tgt := 40) C dX2_alikeBy_10 (by decide) (fun c1 => ?_) (fun c1 => ?_)
  · have T := tt_t T c1
    refine g_iload (q := 4) C dX2_alikeBy_40 rfl ?_
    exact g_iret C dX2_alikeBy_42 (hR _ (tt_some T))
  · have T := tt_f T c1
    refine g_aload_n (q := 0) C dX2_alikeBy_13 rfl rfl ?_
    refine g_iload_n (q := 1) C dX2_alikeBy_14 rfl rfl ?_
    refine g_iload (q := 5) C dX2_alikeBy_15 rfl ?_
    refine g_iload_n (q := 2) C dX2_alikeBy_17 rfl rfl ?_
    refine g_iload (q := 5) C dX2_alikeBy_18 rfl ?_
    refine g_iload_n (q := 3) C dX2_alikeBy_20 rfl rfl ?_
    refine g_iadd C dX2_alikeBy_21 ?_
    refine g_bipush (v := 8) C dX2_alikeBy_22 (by decide) ?_
    refine g_irem C dX2_alikeBy_24 (by decide) ?_
    refine g_callV (p := 45) (As := [.int x1, .int x5, .int x2, .int ((x5 + x3) - (x5 + x3) / 8 * 8)]) C dX2_alikeBy_25 ml_X2_35 yv_f2_sameAbove ⟨rfl, rfl⟩ ⟨Nat.le_of_ble_eq_true rfl, Nat.le_of_ble_eq_true rfl⟩ (hpC rfl rfl) rfl rfl rfl (Nat.le_of_ble_eq_true rfl) (ok_f2_sameAbove x1 x5 x2 ((x5 + x3) - (x5 + x3) / 8 * 8) h (tt_bind T)) ?_
    rintro _ _ ⟨r2, rfl, rfl, T⟩
    show G ΛC x 28 [(0, .ref 45), (1, .int x1), (2, .int x2), (3, .int x3), (4, .int x4), (5, .int x5)] [.int r2] h
    refine g_if_eq (tgt := 34) C dX2_alikeBy_28 (by decide) (fun c3 => ?_) (fun c3 => ?_)
    · have T := tt_t T c3
      exact k_f2_alikeBy_34 C x1 x2 x3 x4 x5 h hR hL6 T
    · have T := tt_f T c3
      refine g_iinc (v := x4 + 1) (q := 4) (L' := [(4, .int (x4 + 1)), (0, .ref 45), (1, .int x1), (2, .int x2), (3, .int x3), (5, .int x5)]) C dX2_alikeBy_31 rfl (by first | rfl | exact congrArg _ (by decide)) (by decide) rfl ?_
      refine g_sub [1, 2, 3, 4, 0, 5] rfl ?_
      exact k_f2_alikeBy_34 C x1 x2 x3 (x4 + 1) x5 h hR hL6 T

noncomputable def f2_alikeBy_6 (x1 : Int32) (x2 : Int32) (x3 : Int32) (x4 : Int32) (x5 : Int32) (h : Hp) : Option (Int32) := lp (fun z : Int32 × Int32 => f2_alikeBy_6_s x1 x2 x3 z.1 z.2 h) (x4, x5)
theorem k_f2_alikeBy_6 {x : Mx} {l : Launch} {post0 : Option Value → Hp → Prop} (C : Cx ΛC x l RX2 cX2_alikeBy rm_f2_alikeBy (some .int) 6 post0) {K : Int32 → Prop} (x1 : Int32) (x2 : Int32) (x3 : Int32) (x4 : Int32) (x5 : Int32) (h : Hp) (hR : ∀ v : Int32, K v → post0 (some (.int v)) h) (T : Tt (f2_alikeBy_6 x1 x2 x3 x4 x5 h) K) : G ΛC x 6 [(0, .ref 45), (1, .int x1), (2, .int x2), (3, .int x3), (4, .int x4), (5, .int x5)] [] h :=
  lp_ind (f := fun z : Int32 × Int32 => f2_alikeBy_6_s x1 x2 x3 z.1 z.2 h) (P := fun z : Int32 × Int32 => G ΛC x 6 [(0, .ref 45), (1, .int x1), (2, .int x2), (3, .int x3), (4, .int z.1), (5, .int z.2)] [] h) (K := K) (fun z T => k_f2_alikeBy_6_s C (K := KS (fun z : Int32 × Int32 => G ΛC x 6 [(0, .ref 45), (1, .int x1), (2, .int x2), (3, .int x3), (4, .int z.1), (5, .int z.2)] [] h) K) x1 x2 x3 z.1 z.2 h hR (fun _ _ q => q) T) (x4, x5) T
noncomputable def f2_alikeBy (x1 : Int32) (x2 : Int32) (x3 : Int32) (h : Hp) : Option (Int32) :=
  f2_alikeBy_6 x1 x2 x3 0 0 h
set_option maxRecDepth 100000 in
set_option maxHeartbeats 4000000 in
theorem k_f2_alikeBy {x : Mx} {l : Launch} {post0 : Option Value → Hp → Prop} (C : Cx ΛC x l RX2 cX2_alikeBy rm_f2_alikeBy (some .int) 6 post0) {K : Int32 → Prop} (x1 : Int32) (x2 : Int32) (x3 : Int32) (h : Hp) (hR : ∀ v : Int32, K v → post0 (some (.int v)) h) (T : Tt (f2_alikeBy x1 x2 x3 h) K) : G ΛC x 0 [(0, .ref 45), (1, .int x1), (2, .int x2), (3, .int x3)] [] h := by
  refine g_iconst (v := 0) C dX2_alikeBy_0 (by decide) ?_
  refine g_istore (L' := [(4, .int 0), (0, .ref 45), (1, .int x1), (2, .int x2), (3, .int x3)]) C dX2_alikeBy_1 (by decide) rfl ?_
  refine g_iconst (v := 0) C dX2_alikeBy_3 (by decide) ?_
  refine g_istore (L' := [(5, .int 0), (4, .int 0), (0, .ref 45), (1, .int x1), (2, .int x2), (3, .int x3)]) C dX2_alikeBy_4 (by decide) rfl ?_
  refine g_sub [2, 3, 4, 5, 1, 0] rfl ?_
  exact k_f2_alikeBy_6 C x1 x2 x3 0 0 h hR T

theorem ok_f2_alikeBy {l : Launch} {K : Int32 → Prop} (x1 : Int32) (x2 : Int32) (x3 : Int32) (h : Hp) (T : Tt (f2_alikeBy x1 x2 x3 h) K) : Ok ΛC l yX2_alikeBy cX2_alikeBy 6 (some .int) rm_f2_alikeBy [.ref 45, .int x1, .int x2, .int x3] h (PIs K h) :=
  Ok.of RX2 rfl (by decide) ⟨rfl, rfl⟩ (Nat.le_of_ble_eq_true rfl) (fun x C => k_f2_alikeBy C x1 x2 x3 h (fun v q => ⟨v, rfl, rfl, q⟩) T)

abbrev rm_f3_firstKnown : Room := { frames := 0, cells := 0, slots := 0, locals := 0 }
noncomputable def f3_firstKnown (h : Hp) : Option (Int32) :=
  if h.1 39 6 = (-1) then (some (h.1 39 5)) else (some (h.1 39 6))
set_option maxRecDepth 100000 in
set_option maxHeartbeats 4000000 in
theorem k_f3_firstKnown {x : Mx} {l : Launch} {post0 : Option Value → Hp → Prop} (C : Cx ΛC x l RX3 cX3_firstKnown rm_f3_firstKnown (some .int) 1 post0) {K : Int32 → Prop} (h : Hp) (hR : ∀ v : Int32, K v → post0 (some (.int v)) h) (T : Tt (f3_firstKnown h) K) : G ΛC x 0 [(0, .ref 39)] [] h := by
  refine g_aload_n (q := 0) C dX3_firstKnown_0 rfl rfl ?_
  refine g_getI (k := 6) C dX3_firstKnown_1 (hpC rfl rfl) rfl fl_X3_28 rfl ?_
  refine g_iconst (v := (-1)) C dX3_firstKnown_4 (by decide) ?_
  refine g_icmp_ne (tgt := 15) C dX3_firstKnown_5 (by decide) (fun c1 => ?_) (fun c1 => ?_)
  · have T := tt_f T c1
    refine g_aload_n (q := 0) C dX3_firstKnown_15 rfl rfl ?_
    refine g_getI (k := 6) C dX3_firstKnown_16 (hpC rfl rfl) rfl fl_X3_28 rfl ?_
    exact g_iret C dX3_firstKnown_19 (hR _ (tt_some T))
  · have T := tt_t T c1
    refine g_aload_n (q := 0) C dX3_firstKnown_8 rfl rfl ?_
    refine g_getI (k := 5) C dX3_firstKnown_9 (hpC rfl rfl) rfl fl_X3_32 rfl ?_
    refine g_goto (tgt := 19) C dX3_firstKnown_12 (by decide) ?_
    exact g_iret C dX3_firstKnown_19 (hR _ (tt_some T))

theorem ok_f3_firstKnown {l : Launch} {K : Int32 → Prop} (h : Hp) (T : Tt (f3_firstKnown h) K) : Ok ΛC l yX3_firstKnown cX3_firstKnown 1 (some .int) rm_f3_firstKnown [.ref 39] h (PIs K h) :=
  Ok.of RX3 rfl (by decide) ⟨rfl, rfl⟩ (Nat.le_of_ble_eq_true rfl) (fun x C => k_f3_firstKnown C h (fun v q => ⟨v, rfl, rfl, q⟩) T)

abbrev rm_f3_sift : Room := { frames := 1, cells := 0, slots := 0, locals := 20 }
noncomputable def f3_sift_64 (x1 : Int32) (h : Hp) : Option ((Int32 × Hp) ⊕ (Hp)) :=
  some (.inl (x1 + (-1), h))
set_option maxRecDepth 100000 in
set_option maxHeartbeats 4000000 in
theorem k_f3_sift_64 {x : Mx} {l : Launch} {post0 : Option Value → Hp → Prop} (C : Cx ΛC x l RX3 cX3_sift rm_f3_sift none 2 post0) {K : (Int32 × Hp) ⊕ (Hp) → Prop} (x1 : Int32) (h : Hp) (hR : ∀ h : Hp, K (.inr h) → post0 none h) (hL30 : ∀ (x1 : Int32) (h : Hp), K (.inl (x1, h)) → G ΛC x 30 [(0, .ref 39), (1, .int x1)] [] h) (T : Tt (f3_sift_64 x1 h) K) : G ΛC x 64 [(0, .ref 39), (1, .int x1)] [] h := by
  refine g_iinc (v := x1 + (-1)) (q := 1) (L' := [(1, .int (x1 + (-1))), (0, .ref 39)]) C dX3_sift_64 rfl (by first | rfl | exact congrArg _ (by decide)) (by decide) rfl ?_
  refine g_goto (tgt := 30) C dX3_sift_67 (by decide) ?_
  refine g_sub [1, 0] rfl ?_
  exact hL30 _ _ (tt_some T)

noncomputable def f3_sift_30_s (x1 : Int32) (h : Hp) : Option ((Int32 × Hp) ⊕ (Hp)) :=
  if x1 < 0 then (some (.inr (h))) else (gd (inb x1 24) <| if h.1 43 (ix x1) = 0 then (f3_sift_64 x1 h) else (gd (inb x1 24) <| if h.1 44 (ix x1) = 0 then (gd (inb x1 24) <| gd (inb (h.1 40 (ix x1)) 24) <| lt (wI h 44 (ix (h.1 40 (ix x1))) 1) fun h10 => f3_sift_64 x1 h10) else (f3_sift_64 x1 h)))
set_option maxRecDepth 100000 in
set_option maxHeartbeats 4000000 in
theorem k_f3_sift_30_s {x : Mx} {l : Launch} {post0 : Option Value → Hp → Prop} (C : Cx ΛC x l RX3 cX3_sift rm_f3_sift none 2 post0) {K : (Int32 × Hp) ⊕ (Hp) → Prop} (x1 : Int32) (h : Hp) (hR : ∀ h : Hp, K (.inr h) → post0 none h) (hL30 : ∀ (x1 : Int32) (h : Hp), K (.inl (x1, h)) → G ΛC x 30 [(0, .ref 39), (1, .int x1)] [] h) (T : Tt (f3_sift_30_s x1 h) K) : G ΛC x 30 [(0, .ref 39), (1, .int x1)] [] h := by
  refine g_iload_n (q := 1) C dX3_sift_30 rfl rfl ?_
  refine g_if_lt (tgt := 70) C dX3_sift_31 (by decide) (fun c3 => ?_) (fun c3 => ?_)
  · have T := tt_t T c3
    exact g_vret C dX3_sift_70 (hR _ (tt_some T))
  · have T := tt_f T c3
    refine g_aload_n (q := 0) C dX3_sift_34 rfl rfl ?_
    refine g_getF (k := 3) (q := 43) C dX3_sift_35 (hpC rfl rfl) rfl fl_X3_22 rfl rfl ?_
    refine g_iload_n (q := 1) C dX3_sift_38 rfl rfl ?_
    obtain ⟨g4, T⟩ := tt_gd T
    refine g_zald C dX3_sift_39 (hpC rfl rfl) rfl (inb_of rfl g4) ?_
    refine g_if_eq (tgt := 64) C dX3_sift_40 (by decide) (fun c5 => ?_) (fun c5 => ?_)
    · have T := tt_t T c5
      exact k_f3_sift_64 C x1 h hR hL30 T
    · have T := tt_f T c5
      refine g_aload_n (q := 0) C dX3_sift_43 rfl rfl ?_
      refine g_getF (k := 4) (q := 44) C dX3_sift_44 (hpC rfl rfl) rfl fl_X3_25 rfl rfl ?_
      refine g_iload_n (q := 1) C dX3_sift_47 rfl rfl ?_
      obtain ⟨g6, T⟩ := tt_gd T
      refine g_zald C dX3_sift_48 (hpC rfl rfl) rfl (inb_of rfl g6) ?_
      refine g_if_ne (tgt := 64) C dX3_sift_49 (by decide) (fun c7 => ?_) (fun c7 => ?_)
      · have T := tt_f T c7
        exact k_f3_sift_64 C x1 h hR hL30 T
      · have T := tt_t T c7
        refine g_aload_n (q := 0) C dX3_sift_52 rfl rfl ?_
        refine g_getF (k := 4) (q := 44) C dX3_sift_53 (hpC rfl rfl) rfl fl_X3_25 rfl rfl ?_
        refine g_aload_n (q := 0) C dX3_sift_56 rfl rfl ?_
        refine g_getF (k := 0) (q := 40) C dX3_sift_57 (hpC rfl rfl) rfl fl_X3_9 rfl rfl ?_
        refine g_iload_n (q := 1) C dX3_sift_60 rfl rfl ?_
        obtain ⟨g8, T⟩ := tt_gd T
        refine g_iald C dX3_sift_61 (hpC rfl rfl) rfl (inb_of rfl g8) ?_
        refine g_iconst (v := 1) C dX3_sift_62 (by decide) ?_
        obtain ⟨g9, T⟩ := tt_gd T
        obtain ⟨h10, eh10, T⟩ := tt_lt T
        refine g_zast C dX3_sift_63 (hpC rfl rfl) rfl (inb_of rfl g9) (Or.inr rfl) eh10 ?_
        exact k_f3_sift_64 C x1 h10 hR hL30 T

noncomputable def f3_sift_30 (x1 : Int32) (h : Hp) : Option (Hp) := lp (fun z : Int32 × Hp => f3_sift_30_s z.1 z.2) (x1, h)
theorem k_f3_sift_30 {x : Mx} {l : Launch} {post0 : Option Value → Hp → Prop} (C : Cx ΛC x l RX3 cX3_sift rm_f3_sift none 2 post0) {K : Hp → Prop} (x1 : Int32) (h : Hp) (hR : ∀ h : Hp, K h → post0 none h) (T : Tt (f3_sift_30 x1 h) K) : G ΛC x 30 [(0, .ref 39), (1, .int x1)] [] h :=
  lp_ind (f := fun z : Int32 × Hp => f3_sift_30_s z.1 z.2) (P := fun z : Int32 × Hp => G ΛC x 30 [(0, .ref 39), (1, .int z.1)] [] z.2) (K := K) (fun z T => k_f3_sift_30_s C (K := KS (fun z : Int32 × Hp => G ΛC x 30 [(0, .ref 39), (1, .int z.1)] [] z.2) K) z.1 z.2 hR (fun _ _ q => q) T) (x1, h) T
noncomputable def f3_sift_23 (h : Hp) : Option (Hp) :=
  (f3_firstKnown h).bind fun r2 => f3_sift_30 (r2 - 1) h
set_option maxRecDepth 100000 in
set_option maxHeartbeats 4000000 in
theorem k_f3_sift_23 {x : Mx} {l : Launch} {post0 : Option Value → Hp → Prop} (C : Cx ΛC x l RX3 cX3_sift rm_f3_sift none 2 post0) {K : Hp → Prop} (h : Hp) (hR : ∀ h : Hp, K h → post0 none h) (T : Tt (f3_sift_23 h) K) : G ΛC x 23 [(0, .ref 39)] [] h := by
  refine g_aload_n (q := 0) C dX3_sift_23 rfl rfl ?_
  refine g_callV (p := 39) (As := []) C dX3_sift_24 ml_X3_39 yv_f3_firstKnown ⟨rfl, rfl⟩ ⟨Nat.le_of_ble_eq_true rfl, Nat.le_of_ble_eq_true rfl⟩ (hpC rfl rfl) rfl rfl rfl (Nat.le_of_ble_eq_true rfl) (ok_f3_firstKnown h (tt_bind T)) ?_
  rintro _ _ ⟨r2, rfl, rfl, T⟩
  show G ΛC x 27 [(0, .ref 39)] [.int r2] h
  refine g_iconst (v := 1) C dX3_sift_27 (by decide) ?_
  refine g_isub C dX3_sift_28 ?_
  refine g_istore_n (L' := [(1, .int (r2 - 1)), (0, .ref 39)]) C dX3_sift_29 rfl (by decide) rfl ?_
  refine g_sub [1, 0] rfl ?_
  exact k_f3_sift_30 C (r2 - 1) h hR T

noncomputable def f3_sift_2_s (x1 : Int32) (h : Hp) : Option ((Int32 × Hp) ⊕ (Hp)) :=
  if h.1 39 5 ≤ x1 then ((f3_sift_23 h).map (fun z => .inr (z))) else (gd (inb x1 24) <| lt (wI h 44 (ix x1) 0) fun h12 => some (.inl (x1 + 1, h12)))
set_option maxRecDepth 100000 in
set_option maxHeartbeats 4000000 in
theorem k_f3_sift_2_s {x : Mx} {l : Launch} {post0 : Option Value → Hp → Prop} (C : Cx ΛC x l RX3 cX3_sift rm_f3_sift none 2 post0) {K : (Int32 × Hp) ⊕ (Hp) → Prop} (x1 : Int32) (h : Hp) (hR : ∀ h : Hp, K (.inr h) → post0 none h) (hL2 : ∀ (x1 : Int32) (h : Hp), K (.inl (x1, h)) → G ΛC x 2 [(0, .ref 39), (1, .int x1)] [] h) (T : Tt (f3_sift_2_s x1 h) K) : G ΛC x 2 [(0, .ref 39), (1, .int x1)] [] h := by
  refine g_iload_n (q := 1) C dX3_sift_2 rfl rfl ?_
  refine g_aload_n (q := 0) C dX3_sift_3 rfl rfl ?_
  refine g_getI (k := 5) C dX3_sift_4 (hpC rfl rfl) rfl fl_X3_32 rfl ?_
  refine g_icmp_ge (tgt := 23) C dX3_sift_7 (by decide) (fun c1 => ?_) (fun c1 => ?_)
  · have T := tt_t T c1
    refine g_sub [0] rfl ?_
    exact k_f3_sift_23 C h hR (tt_map T)
  · have T := tt_f T c1
    refine g_aload_n (q := 0) C dX3_sift_10 rfl rfl ?_
    refine g_getF (k := 4) (q := 44) C dX3_sift_11 (hpC rfl rfl) rfl fl_X3_25 rfl rfl ?_
    refine g_iload_n (q := 1) C dX3_sift_14 rfl rfl ?_
    refine g_iconst (v := 0) C dX3_sift_15 (by decide) ?_
    obtain ⟨g11, T⟩ := tt_gd T
    obtain ⟨h12, eh12, T⟩ := tt_lt T
    refine g_zast C dX3_sift_16 (hpC rfl rfl) rfl (inb_of rfl g11) (Or.inl rfl) eh12 ?_
    refine g_iinc (v := x1 + 1) (q := 1) (L' := [(1, .int (x1 + 1)), (0, .ref 39)]) C dX3_sift_17 rfl (by first | rfl | exact congrArg _ (by decide)) (by decide) rfl ?_
    refine g_goto (tgt := 2) C dX3_sift_20 (by decide) ?_
    refine g_sub [1, 0] rfl ?_
    exact hL2 _ _ (tt_some T)

noncomputable def f3_sift_2 (x1 : Int32) (h : Hp) : Option (Hp) := lp (fun z : Int32 × Hp => f3_sift_2_s z.1 z.2) (x1, h)
theorem k_f3_sift_2 {x : Mx} {l : Launch} {post0 : Option Value → Hp → Prop} (C : Cx ΛC x l RX3 cX3_sift rm_f3_sift none 2 post0) {K : Hp → Prop} (x1 : Int32) (h : Hp) (hR : ∀ h : Hp, K h → post0 none h) (T : Tt (f3_sift_2 x1 h) K) : G ΛC x 2 [(0, .ref 39), (1, .int x1)] [] h :=
  lp_ind (f := fun z : Int32 × Hp => f3_sift_2_s z.1 z.2) (P := fun z : Int32 × Hp => G ΛC x 2 [(0, .ref 39), (1, .int z.1)] [] z.2) (K := K) (fun z T => k_f3_sift_2_s C (K := KS (fun z : Int32 × Hp => G ΛC x 2 [(0, .ref 39), (1, .int z.1)] [] z.2) K) z.1 z.2 hR (fun _ _ q => q) T) (x1, h) T
noncomputable def f3_sift (h : Hp) : Option (Hp) :=
  f3_sift_2 0 h
set_option maxRecDepth 100000 in
set_option maxHeartbeats 4000000 in
theorem k_f3_sift {x : Mx} {l : Launch} {post0 : Option Value → Hp → Prop} (C : Cx ΛC x l RX3 cX3_sift rm_f3_sift none 2 post0) {K : Hp → Prop} (h : Hp) (hR : ∀ h : Hp, K h → post0 none h) (T : Tt (f3_sift h) K) : G ΛC x 0 [(0, .ref 39)] [] h := by
  refine g_iconst (v := 0) C dX3_sift_0 (by decide) ?_
  refine g_istore_n (L' := [(1, .int 0), (0, .ref 39)]) C dX3_sift_1 rfl (by decide) rfl ?_
  refine g_sub [1, 0] rfl ?_
  exact k_f3_sift_2 C 0 h hR T

theorem ok_f3_sift {l : Launch} {K : Hp → Prop} (h : Hp) (T : Tt (f3_sift h) K) : Ok ΛC l yX3_sift cX3_sift 2 none rm_f3_sift [.ref 39] h (PVw K) :=
  Ok.of RX3 rfl (by decide) ⟨rfl, rfl⟩ (Nat.le_of_ble_eq_true rfl) (fun x C => k_f3_sift C h (fun _ q => ⟨rfl, q⟩) T)

abbrev rm_f3_fit : Room := { frames := 2, cells := 0, slots := 0, locals := 44 }
noncomputable def f3_fit_64 (x1 : Nat) (x2 : Int32) (x3 : Int32) (h : Hp) : Option ((Int32) ⊕ (Int32)) :=
  some (.inl (x3 + 1))
set_option maxRecDepth 100000 in
set_option maxHeartbeats 4000000 in
theorem k_f3_fit_64 {x : Mx} {l : Launch} {post0 : Option Value → Hp → Prop} (C : Cx ΛC x l RX3 cX3_fit rm_f3_fit (some .boolean) 4 post0) {K : (Int32) ⊕ (Int32) → Prop} (x1 : Nat) (x2 : Int32) (x3 : Int32) (kx1 : kdC x1 = 0) (h : Hp) (hR : ∀ v : Int32, K (.inr v) → post0 (some (.int v)) h) (hL2 : ∀ (x3 : Int32), K (.inl x3) → G ΛC x 2 [(0, .ref 39), (1, .ref x1), (2, .int x2), (3, .int x3)] [] h) (T : Tt (f3_fit_64 x1 x2 x3 h) K) : G ΛC x 64 [(0, .ref 39), (1, .ref x1), (2, .int x2), (3, .int x3)] [] h := by
  refine g_iinc (v := x3 + 1) (q := 3) (L' := [(3, .int (x3 + 1)), (0, .ref 39), (1, .ref x1), (2, .int x2)]) C dX3_fit_64 rfl (by first | rfl | exact congrArg _ (by decide)) (by decide) rfl ?_
  refine g_goto (tgt := 2) C dX3_fit_67 (by decide) ?_
  refine g_sub [1, 2, 3, 0] rfl ?_
  exact hL2 _ (tt_some T)

noncomputable def f3_fit_53 (x1 : Nat) (x2 : Int32) (x3 : Int32) (s0 : Int32) (h : Hp) : Option ((Int32) ⊕ (Int32)) :=
  gd (inb x3 24) <| if s0 = h.1 42 (ix x3) then (f3_fit_64 x1 x2 x3 h) else (some (.inr 0))
set_option maxRecDepth 100000 in
set_option maxHeartbeats 4000000 in
theorem k_f3_fit_53 {x : Mx} {l : Launch} {post0 : Option Value → Hp → Prop} (C : Cx ΛC x l RX3 cX3_fit rm_f3_fit (some .boolean) 4 post0) {K : (Int32) ⊕ (Int32) → Prop} (x1 : Nat) (x2 : Int32) (x3 : Int32) (s0 : Int32) (kx1 : kdC x1 = 0) (h : Hp) (hR : ∀ v : Int32, K (.inr v) → post0 (some (.int v)) h) (hL2 : ∀ (x3 : Int32), K (.inl x3) → G ΛC x 2 [(0, .ref 39), (1, .ref x1), (2, .int x2), (3, .int x3)] [] h) (T : Tt (f3_fit_53 x1 x2 x3 s0 h) K) : G ΛC x 53 [(0, .ref 39), (1, .ref x1), (2, .int x2), (3, .int x3)] [.int s0] h := by
  refine g_aload_n (q := 0) C dX3_fit_53 rfl rfl ?_
  refine g_getF (k := 2) (q := 42) C dX3_fit_54 (hpC rfl rfl) rfl fl_X3_18 rfl rfl ?_
  refine g_iload_n (q := 3) C dX3_fit_57 rfl rfl ?_
  obtain ⟨g11, T⟩ := tt_gd T
  refine g_zald C dX3_fit_58 (hpC rfl rfl) rfl (inb_of rfl g11) ?_
  refine g_icmp_eq (tgt := 64) C dX3_fit_59 (by decide) (fun c12 => ?_) (fun c12 => ?_)
  · have T := tt_t T c12
    exact k_f3_fit_64 C x1 x2 x3 kx1 h hR hL2 T
  · have T := tt_f T c12
    refine g_iconst (v := 0) C dX3_fit_62 (by decide) ?_
    exact g_zret C dX3_fit_63 (Or.inl rfl) (hR _ (tt_some T))

noncomputable def f3_fit_2_s (x1 : Nat) (x2 : Int32) (x3 : Int32) (h : Hp) : Option ((Int32) ⊕ (Int32)) :=
  (f3_firstKnown h).bind fun r1 => if r1 ≤ x3 then (some (.inr 1)) else (gd (inb x3 24) <| if h.1 43 (ix x3) = 0 then (gd (inb x3 24) <| if h.1 44 (ix x3) = 0 then (gd (inb x3 24) <| (f0_heardWith x1 (h.1 40 (ix x3)) x2 h).bind fun r8 => gd (inb x3 24) <| if r8 = h.1 41 (ix x3) then (f3_fit_53 x1 x2 x3 1 h) else (f3_fit_53 x1 x2 x3 0 h)) else (f3_fit_64 x1 x2 x3 h)) else (f3_fit_64 x1 x2 x3 h))
set_option maxRecDepth 100000 in
set_option maxHeartbeats 4000000 in
theorem k_f3_fit_2_s {x : Mx} {l : Launch} {post0 : Option Value → Hp → Prop} (C : Cx ΛC x l RX3 cX3_fit rm_f3_fit (some .boolean) 4 post0) {K : (Int32) ⊕ (Int32) → Prop} (x1 : Nat) (x2 : Int32) (x3 : Int32) (kx1 : kdC x1 = 0) (h : Hp) (hR : ∀ v : Int32, K (.inr v) → post0 (some (.int v)) h) (hL2 : ∀ (x3 : Int32), K (.inl x3) → G ΛC x 2 [(0, .ref 39), (1, .ref x1), (2, .int x2), (3, .int x3)] [] h) (T : Tt (f3_fit_2_s x1 x2 x3 h) K) : G ΛC x 2 [(0, .ref 39), (1, .ref x1), (2, .int x2), (3, .int x3)] [] h := by
  refine g_iload_n (q := 3) C dX3_fit_2 rfl rfl ?_
  refine g_aload_n (q := 0) C dX3_fit_3 rfl rfl ?_
  refine g_callV (p := 39) (As := []) C dX3_fit_4 ml_X3_39 yv_f3_firstKnown ⟨rfl, rfl⟩ ⟨Nat.le_of_ble_eq_true rfl, Nat.le_of_ble_eq_true rfl⟩ (hpC rfl rfl) rfl rfl rfl (Nat.le_of_ble_eq_true rfl) (ok_f3_firstKnown h (tt_bind T)) ?_
  rintro _ _ ⟨r1, rfl, rfl, T⟩
  show G ΛC x 7 [(0, .ref 39), (1, .ref x1), (2, .int x2), (3, .int x3)] [.int r1, .int x3] h
  refine g_icmp_ge (tgt := 70) C dX3_fit_7 (by decide) (fun c2 => ?_) (fun c2 => ?_)
  · have T := tt_t T c2
    refine g_iconst (v := 1) C dX3_fit_70 (by decide) ?_
    exact g_zret C dX3_fit_71 (Or.inr rfl) (hR _ (tt_some T))
  · have T := tt_f T c2
    refine g_aload_n (q := 0) C dX3_fit_10 rfl rfl ?_
    refine g_getF (k := 3) (q := 43) C dX3_fit_11 (hpC rfl rfl) rfl fl_X3_22 rfl rfl ?_
    refine g_iload_n (q := 3) C dX3_fit_14 rfl rfl ?_
    obtain ⟨g3, T⟩ := tt_gd T
    refine g_zald C dX3_fit_15 (hpC rfl rfl) rfl (inb_of rfl g3) ?_
    refine g_if_ne (tgt := 64) C dX3_fit_16 (by decide) (fun c4 => ?_) (fun c4 => ?_)
    · have T := tt_f T c4
      exact k_f3_fit_64 C x1 x2 x3 kx1 h hR hL2 T
    · have T := tt_t T c4
      refine g_aload_n (q := 0) C dX3_fit_19 rfl rfl ?_
      refine g_getF (k := 4) (q := 44) C dX3_fit_20 (hpC rfl rfl) rfl fl_X3_25 rfl rfl ?_
      refine g_iload_n (q := 3) C dX3_fit_23 rfl rfl ?_
      obtain ⟨g5, T⟩ := tt_gd T
      refine g_zald C dX3_fit_24 (hpC rfl rfl) rfl (inb_of rfl g5) ?_
      refine g_if_ne (tgt := 64) C dX3_fit_25 (by decide) (fun c6 => ?_) (fun c6 => ?_)
      · have T := tt_f T c6
        exact k_f3_fit_64 C x1 x2 x3 kx1 h hR hL2 T
      · have T := tt_t T c6
        refine g_aload_n (q := 1) C dX3_fit_28 rfl rfl ?_
        refine g_aload_n (q := 0) C dX3_fit_29 rfl rfl ?_
        refine g_getF (k := 0) (q := 40) C dX3_fit_30 (hpC rfl rfl) rfl fl_X3_9 rfl rfl ?_
        refine g_iload_n (q := 3) C dX3_fit_33 rfl rfl ?_
        obtain ⟨g7, T⟩ := tt_gd T
        refine g_iald C dX3_fit_34 (hpC rfl rfl) rfl (inb_of rfl g7) ?_
        refine g_iload_n (q := 2) C dX3_fit_35 rfl rfl ?_
        refine g_callV (p := x1) (As := [.int (h.1 40 (ix x3)), .int x2]) C dX3_fit_36 ml_X3_43 yv_f0_heardWith ⟨rfl, rfl⟩ ⟨Nat.le_of_ble_eq_true rfl, Nat.le_of_ble_eq_true rfl⟩ (hpC kx1 rfl) kx1 rfl rfl (Nat.le_of_ble_eq_true rfl) (ok_f0_heardWith x1 (h.1 40 (ix x3)) x2 kx1 h (tt_bind T)) ?_
        rintro _ _ ⟨r8, rfl, rfl, T⟩
        show G ΛC x 39 [(0, .ref 39), (1, .ref x1), (2, .int x2), (3, .int x3)] [.int r8] h
        refine g_aload_n (q := 0) C dX3_fit_39 rfl rfl ?_
        refine g_getF (k := 1) (q := 41) C dX3_fit_40 (hpC rfl rfl) rfl fl_X3_15 rfl rfl ?_
        refine g_iload_n (q := 3) C dX3_fit_43 rfl rfl ?_
        obtain ⟨g9, T⟩ := tt_gd T
        refine g_iald C dX3_fit_44 (hpC rfl rfl) rfl (inb_of rfl g9) ?_
        refine g_icmp_ne (tgt := 52) C dX3_fit_45 (by decide) (fun c10 => ?_) (fun c10 => ?_)
        · have T := tt_f T c10
          refine g_iconst (v := 0) C dX3_fit_52 (by decide) ?_
          exact k_f3_fit_53 C x1 x2 x3 0 kx1 h hR hL2 T
        · have T := tt_t T c10
          refine g_iconst (v := 1) C dX3_fit_48 (by decide) ?_
          refine g_goto (tgt := 53) C dX3_fit_49 (by decide) ?_
          exact k_f3_fit_53 C x1 x2 x3 1 kx1 h hR hL2 T

noncomputable def f3_fit_2 (x1 : Nat) (x2 : Int32) (x3 : Int32) (h : Hp) : Option (Int32) := lp (fun z : Int32 => f3_fit_2_s x1 x2 z h) x3
theorem k_f3_fit_2 {x : Mx} {l : Launch} {post0 : Option Value → Hp → Prop} (C : Cx ΛC x l RX3 cX3_fit rm_f3_fit (some .boolean) 4 post0) {K : Int32 → Prop} (x1 : Nat) (x2 : Int32) (x3 : Int32) (kx1 : kdC x1 = 0) (h : Hp) (hR : ∀ v : Int32, K v → post0 (some (.int v)) h) (T : Tt (f3_fit_2 x1 x2 x3 h) K) : G ΛC x 2 [(0, .ref 39), (1, .ref x1), (2, .int x2), (3, .int x3)] [] h :=
  lp_ind (f := fun z : Int32 => f3_fit_2_s x1 x2 z h) (P := fun z : Int32 => G ΛC x 2 [(0, .ref 39), (1, .ref x1), (2, .int x2), (3, .int z)] [] h) (K := K) (fun z T => k_f3_fit_2_s C (K := KS (fun z : Int32 => G ΛC x 2 [(0, .ref 39), (1, .ref x1), (2, .int x2), (3, .int z)] [] h) K) x1 x2 z kx1 h hR (fun _ q => q) T) x3 T
noncomputable def f3_fit (x1 : Nat) (x2 : Int32) (h : Hp) : Option (Int32) :=
  f3_fit_2 x1 x2 0 h
set_option maxRecDepth 100000 in
set_option maxHeartbeats 4000000 in
theorem k_f3_fit {x : Mx} {l : Launch} {post0 : Option Value → Hp → Prop} (C : Cx ΛC x l RX3 cX3_fit rm_f3_fit (some .boolean) 4 post0) {K : Int32 → Prop} (x1 : Nat) (x2 : Int32) (kx1 : kdC x1 = 0) (h : Hp) (hR : ∀ v : Int32, K v → post0 (some (.int v)) h) (T : Tt (f3_fit x1 x2 h) K) : G ΛC x 0 [(0, .ref 39), (1, .ref x1), (2, .int x2)] [] h := by
  refine g_iconst (v := 0) C dX3_fit_0 (by decide) ?_
  refine g_istore_n (L' := [(3, .int 0), (0, .ref 39), (1, .ref x1), (2, .int x2)]) C dX3_fit_1 rfl (by decide) rfl ?_
  refine g_sub [1, 2, 3, 0] rfl ?_
  exact k_f3_fit_2 C x1 x2 0 kx1 h hR T

theorem ok_f3_fit {l : Launch} {K : Int32 → Prop} (x1 : Nat) (x2 : Int32) (kx1 : kdC x1 = 0) (h : Hp) (T : Tt (f3_fit x1 x2 h) K) : Ok ΛC l yX3_fit cX3_fit 4 (some .boolean) rm_f3_fit [.ref 39, .ref x1, .int x2] h (PIs K h) :=
  Ok.of RX3 rfl (by decide) ⟨rfl, rfl⟩ (Nat.le_of_ble_eq_true rfl) (fun x C => k_f3_fit C x1 x2 kx1 h (fun v q => ⟨v, rfl, rfl, q⟩) T)

abbrev rm_f2_overlap : Room := { frames := 1, cells := 0, slots := 0, locals := 22 }
noncomputable def f2_overlap_44 (x1 : Int32) (x2 : Int32) (x3 : Int32) (x4 : Int32) (h : Hp) : Option ((Int32) ⊕ (Int32)) :=
  if x4 = x3 then (some (.inr x3)) else (some (.inl (x3 + (-1))))
set_option maxRecDepth 100000 in
set_option maxHeartbeats 4000000 in
theorem k_f2_overlap_44 {x : Mx} {l : Launch} {post0 : Option Value → Hp → Prop} (C : Cx ΛC x l RX2 cX2_overlap rm_f2_overlap (some .int) 5 post0) {K : (Int32) ⊕ (Int32) → Prop} (x1 : Int32) (x2 : Int32) (x3 : Int32) (x4 : Int32) (h : Hp) (hR : ∀ v : Int32, K (.inr v) → post0 (some (.int v)) h) (hL3 : ∀ (x3 : Int32), K (.inl x3) → G ΛC x 3 [(0, .ref 45), (1, .int x1), (2, .int x2), (3, .int x3)] [] h) (T : Tt (f2_overlap_44 x1 x2 x3 x4 h) K) : G ΛC x 44 [(0, .ref 45), (1, .int x1), (2, .int x2), (3, .int x3), (4, .int x4)] [] h := by
  refine g_iload (q := 4) C dX2_overlap_44 rfl ?_
  refine g_iload_n (q := 3) C dX2_overlap_46 rfl rfl ?_
  refine g_icmp_ne (tgt := 52) C dX2_overlap_47 (by decide) (fun c3 => ?_) (fun c3 => ?_)
  · have T := tt_f T c3
    refine g_iinc (v := x3 + (-1)) (q := 3) (L' := [(3, .int (x3 + (-1))), (0, .ref 45), (1, .int x1), (2, .int x2), (4, .int x4)]) C dX2_overlap_52 rfl (by first | rfl | exact congrArg _ (by decide)) (by decide) rfl ?_
    refine g_goto (tgt := 3) C dX2_overlap_55 (by decide) ?_
    refine g_sub [1, 2, 3, 0] rfl ?_
    exact hL3 _ (tt_some T)
  · have T := tt_t T c3
    refine g_iload_n (q := 3) C dX2_overlap_50 rfl rfl ?_
    exact g_iret C dX2_overlap_51 (hR _ (tt_some T))

noncomputable def f2_overlap_10_s (x1 : Int32) (x2 : Int32) (x3 : Int32) (x4 : Int32) (h : Hp) : Option ((Int32) ⊕ ((Int32) ⊕ (Int32))) :=
  if x3 ≤ x4 then ((f2_overlap_44 x1 x2 x3 x4 h).map (fun z => .inr (z))) else ((f2_at x1 ((8 - x3) + x4) h).bind fun r4 => (f2_at x2 x4 h).bind fun r5 => if r4 = r5 then (some (.inl (x4 + 1))) else ((f2_overlap_44 x1 x2 x3 x4 h).map (fun z => .inr (z))))
set_option maxRecDepth 100000 in
set_option maxHeartbeats 4000000 in
theorem k_f2_overlap_10_s {x : Mx} {l : Launch} {post0 : Option Value → Hp → Prop} (C : Cx ΛC x l RX2 cX2_overlap rm_f2_overlap (some .int) 5 post0) {K : (Int32) ⊕ ((Int32) ⊕ (Int32)) → Prop} (x1 : Int32) (x2 : Int32) (x3 : Int32) (x4 : Int32) (h : Hp) (hR : ∀ v : Int32, K (.inr (.inr v)) → post0 (some (.int v)) h) (hL3 : ∀ (x3 : Int32), K (.inr (.inl x3)) → G ΛC x 3 [(0, .ref 45), (1, .int x1), (2, .int x2), (3, .int x3)] [] h) (hL10 : ∀ (x4 : Int32), K (.inl x4) → G ΛC x 10 [(0, .ref 45), (1, .int x1), (2, .int x2), (3, .int x3), (4, .int x4)] [] h) (T : Tt (f2_overlap_10_s x1 x2 x3 x4 h) K) : G ΛC x 10 [(0, .ref 45), (1, .int x1), (2, .int x2), (3, .int x3), (4, .int x4)] [] h := by
  refine g_iload (q := 4) C dX2_overlap_10 rfl ?_
  refine g_iload_n (q := 3) C dX2_overlap_12 rfl rfl ?_
  refine g_icmp_ge (tgt := 44) C dX2_overlap_13 (by decide) (fun c2 => ?_) (fun c2 => ?_)
  · have T := tt_t T c2
    exact k_f2_overlap_44 C x1 x2 x3 x4 h hR hL3 (tt_map T)
  · have T := tt_f T c2
    refine g_aload_n (q := 0) C dX2_overlap_16 rfl rfl ?_
    refine g_iload_n (q := 1) C dX2_overlap_17 rfl rfl ?_
    refine g_bipush (v := 8) C dX2_overlap_18 (by decide) ?_
    refine g_iload_n (q := 3) C dX2_overlap_20 rfl rfl ?_
    refine g_isub C dX2_overlap_21 ?_
    refine g_iload (q := 4) C dX2_overlap_22 rfl ?_
    refine g_iadd C dX2_overlap_24 ?_
    refine g_callV (p := 45) (As := [.int x1, .int ((8 - x3) + x4)]) C dX2_overlap_25 ml_X2_31 yv_f2_at ⟨rfl, rfl⟩ ⟨Nat.le_of_ble_eq_true rfl, Nat.le_of_ble_eq_true rfl⟩ (hpC rfl rfl) rfl rfl rfl (Nat.le_of_ble_eq_true rfl) (ok_f2_at x1 ((8 - x3) + x4) h (tt_bind T)) ?_
    rintro _ _ ⟨r4, rfl, rfl, T⟩
    show G ΛC x 28 [(0, .ref 45), (1, .int x1), (2, .int x2), (3, .int x3), (4, .int x4)] [.int r4] h
    refine g_aload_n (q := 0) C dX2_overlap_28 rfl rfl ?_
    refine g_iload_n (q := 2) C dX2_overlap_29 rfl rfl ?_
    refine g_iload (q := 4) C dX2_overlap_30 rfl ?_
    refine g_callV (p := 45) (As := [.int x2, .int x4]) C dX2_overlap_32 ml_X2_31 yv_f2_at ⟨rfl, rfl⟩ ⟨Nat.le_of_ble_eq_true rfl, Nat.le_of_ble_eq_true rfl⟩ (hpC rfl rfl) rfl rfl rfl (Nat.le_of_ble_eq_true rfl) (ok_f2_at x2 x4 h (tt_bind T)) ?_
    rintro _ _ ⟨r5, rfl, rfl, T⟩
    show G ΛC x 35 [(0, .ref 45), (1, .int x1), (2, .int x2), (3, .int x3), (4, .int x4)] [.int r5, .int r4] h
    refine g_icmp_ne (tgt := 44) C dX2_overlap_35 (by decide) (fun c6 => ?_) (fun c6 => ?_)
    · have T := tt_f T c6
      exact k_f2_overlap_44 C x1 x2 x3 x4 h hR hL3 (tt_map T)
    · have T := tt_t T c6
      refine g_iinc (v := x4 + 1) (q := 4) (L' := [(4, .int (x4 + 1)), (0, .ref 45), (1, .int x1), (2, .int x2), (3, .int x3)]) C dX2_overlap_38 rfl (by first | rfl | exact congrArg _ (by decide)) (by decide) rfl ?_
      refine g_goto (tgt := 10) C dX2_overlap_41 (by decide) ?_
      refine g_sub [1, 2, 3, 4, 0] rfl ?_
      exact hL10 _ (tt_some T)

noncomputable def f2_overlap_10 (x1 : Int32) (x2 : Int32) (x3 : Int32) (x4 : Int32) (h : Hp) : Option ((Int32) ⊕ (Int32)) := lp (fun z : Int32 => f2_overlap_10_s x1 x2 x3 z h) x4
theorem k_f2_overlap_10 {x : Mx} {l : Launch} {post0 : Option Value → Hp → Prop} (C : Cx ΛC x l RX2 cX2_overlap rm_f2_overlap (some .int) 5 post0) {K : (Int32) ⊕ (Int32) → Prop} (x1 : Int32) (x2 : Int32) (x3 : Int32) (x4 : Int32) (h : Hp) (hR : ∀ v : Int32, K (.inr v) → post0 (some (.int v)) h) (hL3 : ∀ (x3 : Int32), K (.inl x3) → G ΛC x 3 [(0, .ref 45), (1, .int x1), (2, .int x2), (3, .int x3)] [] h) (T : Tt (f2_overlap_10 x1 x2 x3 x4 h) K) : G ΛC x 10 [(0, .ref 45), (1, .int x1), (2, .int x2), (3, .int x3), (4, .int x4)] [] h :=
  lp_ind (f := fun z : Int32 => f2_overlap_10_s x1 x2 x3 z h) (P := fun z : Int32 => G ΛC x 10 [(0, .ref 45), (1, .int x1), (2, .int x2), (3, .int x3), (4, .int z)] [] h) (K := K) (fun z T => k_f2_overlap_10_s C (K := KS (fun z : Int32 => G ΛC x 10 [(0, .ref 45), (1, .int x1), (2, .int x2), (3, .int x3), (4, .int z)] [] h) K) x1 x2 x3 z h hR hL3 (fun _ q => q) T) x4 T
noncomputable def f2_overlap_3_s (x1 : Int32) (x2 : Int32) (x3 : Int32) (h : Hp) : Option ((Int32) ⊕ (Int32)) :=
  if x3 ≤ 0 then (some (.inr 0)) else (f2_overlap_10 x1 x2 x3 0 h)
set_option maxRecDepth 100000 in
set_option maxHeartbeats 4000000 in
theorem k_f2_overlap_3_s {x : Mx} {l : Launch} {post0 : Option Value → Hp → Prop} (C : Cx ΛC x l RX2 cX2_overlap rm_f2_overlap (some .int) 5 post0) {K : (Int32) ⊕ (Int32) → Prop} (x1 : Int32) (x2 : Int32) (x3 : Int32) (h : Hp) (hR : ∀ v : Int32, K (.inr v) → post0 (some (.int v)) h) (hL3 : ∀ (x3 : Int32), K (.inl x3) → G ΛC x 3 [(0, .ref 45), (1, .int x1), (2, .int x2), (3, .int x3)] [] h) (T : Tt (f2_overlap_3_s x1 x2 x3 h) K) : G ΛC x 3 [(0, .ref 45), (1, .int x1), (2, .int x2), (3, .int x3)] [] h := by
  refine g_iload_n (q := 3) C dX2_overlap_3 rfl rfl ?_
  refine g_if_le (tgt := 58) C dX2_overlap_4 (by decide) (fun c1 => ?_) (fun c1 => ?_)
  · have T := tt_t T c1
    refine g_iconst (v := 0) C dX2_overlap_58 (by decide) ?_
    exact g_iret C dX2_overlap_59 (hR _ (tt_some T))
  · have T := tt_f T c1
    refine g_iconst (v := 0) C dX2_overlap_7 (by decide) ?_
    refine g_istore (L' := [(4, .int 0), (0, .ref 45), (1, .int x1), (2, .int x2), (3, .int x3)]) C dX2_overlap_8 (by decide) rfl ?_
    refine g_sub [1, 2, 3, 4, 0] rfl ?_
    exact k_f2_overlap_10 C x1 x2 x3 0 h hR hL3 T

noncomputable def f2_overlap_3 (x1 : Int32) (x2 : Int32) (x3 : Int32) (h : Hp) : Option (Int32) := lp (fun z : Int32 => f2_overlap_3_s x1 x2 z h) x3
theorem k_f2_overlap_3 {x : Mx} {l : Launch} {post0 : Option Value → Hp → Prop} (C : Cx ΛC x l RX2 cX2_overlap rm_f2_overlap (some .int) 5 post0) {K : Int32 → Prop} (x1 : Int32) (x2 : Int32) (x3 : Int32) (h : Hp) (hR : ∀ v : Int32, K v → post0 (some (.int v)) h) (T : Tt (f2_overlap_3 x1 x2 x3 h) K) : G ΛC x 3 [(0, .ref 45), (1, .int x1), (2, .int x2), (3, .int x3)] [] h :=
  lp_ind (f := fun z : Int32 => f2_overlap_3_s x1 x2 z h) (P := fun z : Int32 => G ΛC x 3 [(0, .ref 45), (1, .int x1), (2, .int x2), (3, .int z)] [] h) (K := K) (fun z T => k_f2_overlap_3_s C (K := KS (fun z : Int32 => G ΛC x 3 [(0, .ref 45), (1, .int x1), (2, .int x2), (3, .int z)] [] h) K) x1 x2 z h hR (fun _ q => q) T) x3 T
noncomputable def f2_overlap (x1 : Int32) (x2 : Int32) (h : Hp) : Option (Int32) :=
  f2_overlap_3 x1 x2 7 h
set_option maxRecDepth 100000 in
set_option maxHeartbeats 4000000 in
theorem k_f2_overlap {x : Mx} {l : Launch} {post0 : Option Value → Hp → Prop} (C : Cx ΛC x l RX2 cX2_overlap rm_f2_overlap (some .int) 5 post0) {K : Int32 → Prop} (x1 : Int32) (x2 : Int32) (h : Hp) (hR : ∀ v : Int32, K v → post0 (some (.int v)) h) (T : Tt (f2_overlap x1 x2 h) K) : G ΛC x 0 [(0, .ref 45), (1, .int x1), (2, .int x2)] [] h := by
  refine g_bipush (v := 7) C dX2_overlap_0 (by decide) ?_
  refine g_istore_n (L' := [(3, .int 7), (0, .ref 45), (1, .int x1), (2, .int x2)]) C dX2_overlap_2 rfl (by decide) rfl ?_
  refine g_sub [1, 2, 3, 0] rfl ?_
  exact k_f2_overlap_3 C x1 x2 7 h hR T

theorem ok_f2_overlap {l : Launch} {K : Int32 → Prop} (x1 : Int32) (x2 : Int32) (h : Hp) (T : Tt (f2_overlap x1 x2 h) K) : Ok ΛC l yX2_overlap cX2_overlap 5 (some .int) rm_f2_overlap [.ref 45, .int x1, .int x2] h (PIs K h) :=
  Ok.of RX2 rfl (by decide) ⟨rfl, rfl⟩ (Nat.le_of_ble_eq_true rfl) (fun x C => k_f2_overlap C x1 x2 h (fun v q => ⟨v, rfl, rfl, q⟩) T)

abbrev rm_f6_lengthBy : Room := { frames := 0, cells := 0, slots := 0, locals := 0 }
noncomputable def f6_lengthBy_31 (s0 : Int32) (s1 : Int32) (h : Hp) : Option (Int32) :=
  some (s1 + s0)
set_option maxRecDepth 100000 in
set_option maxHeartbeats 4000000 in
theorem k_f6_lengthBy_31 {x : Mx} {l : Launch} {post0 : Option Value → Hp → Prop} (C : Cx ΛC x l RX6 cX6_lengthBy rm_f6_lengthBy (some .int) 4 post0) {K : Int32 → Prop} (s0 : Int32) (s1 : Int32) (h : Hp) (hR : ∀ v : Int32, K v → post0 (some (.int v)) h) (T : Tt (f6_lengthBy_31 s0 s1 h) K) : G ΛC x 31 [] [.int s0, .int s1] h := by
  refine g_iadd C dX6_lengthBy_31 ?_
  exact g_iret C dX6_lengthBy_32 (hR _ (tt_some T))

noncomputable def f6_lengthBy (x1 : Int32) (x2 : Int32) (x3 : Int32) (h : Hp) : Option (Int32) :=
  gd (inb ((x3 * 6) + x2) 384) <| if x1 = (-1) then (f6_lengthBy_31 0 (h.1 48 (ix ((x3 * 6) + x2))) h) else (gd (inb ((x1 * 6) + x2) 36) <| f6_lengthBy_31 (h.1 49 (ix ((x1 * 6) + x2))) (h.1 48 (ix ((x3 * 6) + x2))) h)
set_option maxRecDepth 100000 in
set_option maxHeartbeats 4000000 in
theorem k_f6_lengthBy {x : Mx} {l : Launch} {post0 : Option Value → Hp → Prop} (C : Cx ΛC x l RX6 cX6_lengthBy rm_f6_lengthBy (some .int) 4 post0) {K : Int32 → Prop} (x1 : Int32) (x2 : Int32) (x3 : Int32) (h : Hp) (hR : ∀ v : Int32, K v → post0 (some (.int v)) h) (T : Tt (f6_lengthBy x1 x2 x3 h) K) : G ΛC x 0 [(0, .ref 47), (1, .int x1), (2, .int x2), (3, .int x3)] [] h := by
  refine g_aload_n (q := 0) C dX6_lengthBy_0 rfl rfl ?_
  refine g_getF (k := 0) (q := 48) C dX6_lengthBy_1 (hpC rfl rfl) rfl fl_X6_9 rfl rfl ?_
  refine g_iload_n (q := 3) C dX6_lengthBy_4 rfl rfl ?_
  refine g_bipush (v := 6) C dX6_lengthBy_5 (by decide) ?_
  refine g_imul C dX6_lengthBy_7 ?_
  refine g_iload_n (q := 2) C dX6_lengthBy_8 rfl rfl ?_
  refine g_iadd C dX6_lengthBy_9 ?_
  obtain ⟨g1, T⟩ := tt_gd T
  refine g_iald C dX6_lengthBy_10 (hpC rfl rfl) rfl (inb_of rfl g1) ?_
  refine g_iload_n (q := 1) C dX6_lengthBy_11 rfl rfl ?_
  refine g_iconst (v := (-1)) C dX6_lengthBy_12 (by decide) ?_
  refine g_icmp_ne (tgt := 20) C dX6_lengthBy_13 (by decide) (fun c2 => ?_) (fun c2 => ?_)
  · have T := tt_f T c2
    refine g_aload_n (q := 0) C dX6_lengthBy_20 rfl rfl ?_
    refine g_getF (k := 1) (q := 49) C dX6_lengthBy_21 (hpC rfl rfl) rfl fl_X6_15 rfl rfl ?_
    refine g_iload_n (q := 1) C dX6_lengthBy_24 rfl rfl ?_
    refine g_bipush (v := 6) C dX6_lengthBy_25 (by decide) ?_
    refine g_imul C dX6_lengthBy_27 ?_
    refine g_iload_n (q := 2) C dX6_lengthBy_28 rfl rfl ?_
    refine g_iadd C dX6_lengthBy_29 ?_
    obtain ⟨g3, T⟩ := tt_gd T
    refine g_iald C dX6_lengthBy_30 (hpC rfl rfl) rfl (inb_of rfl g3) ?_
    refine g_sub [] rfl ?_
    exact k_f6_lengthBy_31 C (h.1 49 (ix ((x1 * 6) + x2))) (h.1 48 (ix ((x3 * 6) + x2))) h hR T
  · have T := tt_t T c2
    refine g_iconst (v := 0) C dX6_lengthBy_16 (by decide) ?_
    refine g_goto (tgt := 31) C dX6_lengthBy_17 (by decide) ?_
    refine g_sub [] rfl ?_
    exact k_f6_lengthBy_31 C 0 (h.1 48 (ix ((x3 * 6) + x2))) h hR T

theorem ok_f6_lengthBy {l : Launch} {K : Int32 → Prop} (x1 : Int32) (x2 : Int32) (x3 : Int32) (h : Hp) (T : Tt (f6_lengthBy x1 x2 x3 h) K) : Ok ΛC l yX6_lengthBy cX6_lengthBy 4 (some .int) rm_f6_lengthBy [.ref 47, .int x1, .int x2, .int x3] h (PIs K h) :=
  Ok.of RX6 rfl (by decide) ⟨rfl, rfl⟩ (Nat.le_of_ble_eq_true rfl) (fun x C => k_f6_lengthBy C x1 x2 x3 h (fun v q => ⟨v, rfl, rfl, q⟩) T)

abbrev rm_f6_shortestNext : Room := { frames := 1, cells := 0, slots := 0, locals := 23 }
noncomputable def f6_shortestNext_46 (x1 : Int32) (x2 : Int32) (x3 : Int32) (x4 : Int32) (h : Hp) : Option ((Int32 × Int32) ⊕ (Int32)) :=
  some (.inl (x3, x4 + (-1)))
set_option maxRecDepth 100000 in
set_option maxHeartbeats 4000000 in
theorem k_f6_shortestNext_46 {x : Mx} {l : Launch} {post0 : Option Value → Hp → Prop} (C : Cx ΛC x l RX6 cX6_shortestNext rm_f6_shortestNext (some .int) 5 post0) {K : (Int32 × Int32) ⊕ (Int32) → Prop} (x1 : Int32) (x2 : Int32) (x3 : Int32) (x4 : Int32) (h : Hp) (hR : ∀ v : Int32, K (.inr v) → post0 (some (.int v)) h) (hL5 : ∀ (x3 : Int32) (x4 : Int32), K (.inl (x3, x4)) → G ΛC x 5 [(0, .ref 47), (1, .int x1), (2, .int x2), (3, .int x3), (4, .int x4)] [] h) (T : Tt (f6_shortestNext_46 x1 x2 x3 x4 h) K) : G ΛC x 46 [(0, .ref 47), (1, .int x1), (2, .int x2), (3, .int x3), (4, .int x4)] [] h := by
  refine g_iinc (v := x4 + (-1)) (q := 4) (L' := [(4, .int (x4 + (-1))), (0, .ref 47), (1, .int x1), (2, .int x2), (3, .int x3)]) C dX6_shortestNext_46 rfl (by first | rfl | exact congrArg _ (by decide)) (by decide) rfl ?_
  refine g_goto (tgt := 5) C dX6_shortestNext_49 (by decide) ?_
  refine g_sub [1, 2, 3, 4, 0] rfl ?_
  exact hL5 _ _ (tt_some T)

noncomputable def f6_shortestNext_43 (x1 : Int32) (x2 : Int32) (x4 : Int32) (h : Hp) : Option ((Int32 × Int32) ⊕ (Int32)) :=
  f6_shortestNext_46 x1 x2 x4 x4 h
set_option maxRecDepth 100000 in
set_option maxHeartbeats 4000000 in
theorem k_f6_shortestNext_43 {x : Mx} {l : Launch} {post0 : Option Value → Hp → Prop} (C : Cx ΛC x l RX6 cX6_shortestNext rm_f6_shortestNext (some .int) 5 post0) {K : (Int32 × Int32) ⊕ (Int32) → Prop} (x1 : Int32) (x2 : Int32) (x4 : Int32) (h : Hp) (hR : ∀ v : Int32, K (.inr v) → post0 (some (.int v)) h) (hL5 : ∀ (x3 : Int32) (x4 : Int32), K (.inl (x3, x4)) → G ΛC x 5 [(0, .ref 47), (1, .int x1), (2, .int x2), (3, .int x3), (4, .int x4)] [] h) (T : Tt (f6_shortestNext_43 x1 x2 x4 h) K) : G ΛC x 43 [(0, .ref 47), (1, .int x1), (2, .int x2), (4, .int x4)] [] h := by
  refine g_iload (q := 3) C dX6_shortestNext_43 rfl ?_
  refine g_istore_n (L' := [(3, .int x4), (0, .ref 47), (1, .int x1), (2, .int x2), (4, .int x4)]) C dX6_shortestNext_45 rfl (by decide) rfl ?_
  refine g_sub [1, 2, 3, 0, 4] rfl ?_
  exact k_f6_shortestNext_46 C x1 x2 x4 x4 h hR hL5 T

noncomputable def f6_shortestNext_5_s (x1 : Int32) (x2 : Int32) (x3 : Int32) (x4 : Int32) (h : Hp) : Option ((Int32 × Int32) ⊕ (Int32)) :=
  if x4 < 0 then (some (.inr x3)) else (if (x2 >>> (x4 &&& 31)) &&& 1 = 1 then (if x3 = (-1) then (f6_shortestNext_43 x1 x2 x4 h) else ((f6_lengthBy x1 x4 x2 h).bind fun r4 => (f6_lengthBy x1 x3 x2 h).bind fun r5 => if r5 < r4 then (f6_shortestNext_46 x1 x2 x3 x4 h) else (f6_shortestNext_43 x1 x2 x4 h))) else (f6_shortestNext_46 x1 x2 x3 x4 h))
set_option maxRecDepth 100000 in
set_option maxHeartbeats 4000000 in
theorem k_f6_shortestNext_5_s {x : Mx} {l : Launch} {post0 : Option Value → Hp → Prop} (C : Cx ΛC x l RX6 cX6_shortestNext rm_f6_shortestNext (some .int) 5 post0) {K : (Int32 × Int32) ⊕ (Int32) → Prop} (x1 : Int32) (x2 : Int32) (x3 : Int32) (x4 : Int32) (h : Hp) (hR : ∀ v : Int32, K (.inr v) → post0 (some (.int v)) h) (hL5 : ∀ (x3 : Int32) (x4 : Int32), K (.inl (x3, x4)) → G ΛC x 5 [(0, .ref 47), (1, .int x1), (2, .int x2), (3, .int x3), (4, .int x4)] [] h) (T : Tt (f6_shortestNext_5_s x1 x2 x3 x4 h) K) : G ΛC x 5 [(0, .ref 47), (1, .int x1), (2, .int x2), (3, .int x3), (4, .int x4)] [] h := by
  refine g_iload (q := 4) C dX6_shortestNext_5 rfl ?_
  refine g_if_lt (tgt := 52) C dX6_shortestNext_7 (by decide) (fun c1 => ?_) (fun c1 => ?_)
  · have T := tt_t T c1
    refine g_iload_n (q := 3) C dX6_shortestNext_52 rfl rfl ?_
    exact g_iret C dX6_shortestNext_53 (hR _ (tt_some T))
  · have T := tt_f T c1
    refine g_iload_n (q := 2) C dX6_shortestNext_10 rfl rfl ?_
    refine g_iload (q := 4) C dX6_shortestNext_11 rfl ?_
    refine g_ishr C dX6_shortestNext_13 ?_
    refine g_iconst (v := 1) C dX6_shortestNext_14 (by decide) ?_
    refine g_iand C dX6_shortestNext_15 ?_
    refine g_iconst (v := 1) C dX6_shortestNext_16 (by decide) ?_
    refine g_icmp_ne (tgt := 46) C dX6_shortestNext_17 (by decide) (fun c2 => ?_) (fun c2 => ?_)
    · have T := tt_f T c2
      exact k_f6_shortestNext_46 C x1 x2 x3 x4 h hR hL5 T
    · have T := tt_t T c2
      refine g_iload_n (q := 3) C dX6_shortestNext_20 rfl rfl ?_
      refine g_iconst (v := (-1)) C dX6_shortestNext_21 (by decide) ?_
      refine g_icmp_eq (tgt := 43) C dX6_shortestNext_22 (by decide) (fun c3 => ?_) (fun c3 => ?_)
      · have T := tt_t T c3
        refine g_sub [0, 1, 2, 4] rfl ?_
        exact k_f6_shortestNext_43 C x1 x2 x4 h hR hL5 T
      · have T := tt_f T c3
        refine g_aload_n (q := 0) C dX6_shortestNext_25 rfl rfl ?_
        refine g_iload_n (q := 1) C dX6_shortestNext_26 rfl rfl ?_
        refine g_iload (q := 4) C dX6_shortestNext_27 rfl ?_
        refine g_iload_n (q := 2) C dX6_shortestNext_29 rfl rfl ?_
        refine g_callV (p := 47) (As := [.int x1, .int x4, .int x2]) C dX6_shortestNext_30 ml_X6_40 yv_f6_lengthBy ⟨rfl, rfl⟩ ⟨Nat.le_of_ble_eq_true rfl, Nat.le_of_ble_eq_true rfl⟩ (hpC rfl rfl) rfl rfl rfl (Nat.le_of_ble_eq_true rfl) (ok_f6_lengthBy x1 x4 x2 h (tt_bind T)) ?_
        rintro _ _ ⟨r4, rfl, rfl, T⟩
        show G ΛC x 33 [(0, .ref 47), (1, .int x1), (2, .int x2), (3, .int x3), (4, .int x4)] [.int r4] h
        refine g_aload_n (q := 0) C dX6_shortestNext_33 rfl rfl ?_
        refine g_iload_n (q := 1) C dX6_shortestNext_34 rfl rfl ?_
        refine g_iload_n (q := 3) C dX6_shortestNext_35 rfl rfl ?_
        refine g_iload_n (q := 2) C dX6_shortestNext_36 rfl rfl ?_
        refine g_callV (p := 47) (As := [.int x1, .int x3, .int x2]) C dX6_shortestNext_37 ml_X6_40 yv_f6_lengthBy ⟨rfl, rfl⟩ ⟨Nat.le_of_ble_eq_true rfl, Nat.le_of_ble_eq_true rfl⟩ (hpC rfl rfl) rfl rfl rfl (Nat.le_of_ble_eq_true rfl) (ok_f6_lengthBy x1 x3 x2 h (tt_bind T)) ?_
        rintro _ _ ⟨r5, rfl, rfl, T⟩
        show G ΛC x 40 [(0, .ref 47), (1, .int x1), (2, .int x2), (3, .int x3), (4, .int x4)] [.int r5, .int r4] h
        refine g_icmp_gt (tgt := 46) C dX6_shortestNext_40 (by decide) (fun c6 => ?_) (fun c6 => ?_)
        · have T := tt_t T c6
          exact k_f6_shortestNext_46 C x1 x2 x3 x4 h hR hL5 T
        · have T := tt_f T c6
          refine g_sub [0, 1, 2, 4] rfl ?_
          exact k_f6_shortestNext_43 C x1 x2 x4 h hR hL5 T

noncomputable def f6_shortestNext_5 (x1 : Int32) (x2 : Int32) (x3 : Int32) (x4 : Int32) (h : Hp) : Option (Int32) := lp (fun z : Int32 × Int32 => f6_shortestNext_5_s x1 x2 z.1 z.2 h) (x3, x4)
theorem k_f6_shortestNext_5 {x : Mx} {l : Launch} {post0 : Option Value → Hp → Prop} (C : Cx ΛC x l RX6 cX6_shortestNext rm_f6_shortestNext (some .int) 5 post0) {K : Int32 → Prop} (x1 : Int32) (x2 : Int32) (x3 : Int32) (x4 : Int32) (h : Hp) (hR : ∀ v : Int32, K v → post0 (some (.int v)) h) (T : Tt (f6_shortestNext_5 x1 x2 x3 x4 h) K) : G ΛC x 5 [(0, .ref 47), (1, .int x1), (2, .int x2), (3, .int x3), (4, .int x4)] [] h :=
  lp_ind (f := fun z : Int32 × Int32 => f6_shortestNext_5_s x1 x2 z.1 z.2 h) (P := fun z : Int32 × Int32 => G ΛC x 5 [(0, .ref 47), (1, .int x1), (2, .int x2), (3, .int z.1), (4, .int z.2)] [] h) (K := K) (fun z T => k_f6_shortestNext_5_s C (K := KS (fun z : Int32 × Int32 => G ΛC x 5 [(0, .ref 47), (1, .int x1), (2, .int x2), (3, .int z.1), (4, .int z.2)] [] h) K) x1 x2 z.1 z.2 h hR (fun _ _ q => q) T) (x3, x4) T
noncomputable def f6_shortestNext (x1 : Int32) (x2 : Int32) (h : Hp) : Option (Int32) :=
  f6_shortestNext_5 x1 x2 (-1) 5 h
set_option maxRecDepth 100000 in
set_option maxHeartbeats 4000000 in
theorem k_f6_shortestNext {x : Mx} {l : Launch} {post0 : Option Value → Hp → Prop} (C : Cx ΛC x l RX6 cX6_shortestNext rm_f6_shortestNext (some .int) 5 post0) {K : Int32 → Prop} (x1 : Int32) (x2 : Int32) (h : Hp) (hR : ∀ v : Int32, K v → post0 (some (.int v)) h) (T : Tt (f6_shortestNext x1 x2 h) K) : G ΛC x 0 [(0, .ref 47), (1, .int x1), (2, .int x2)] [] h := by
  refine g_iconst (v := (-1)) C dX6_shortestNext_0 (by decide) ?_
  refine g_istore_n (L' := [(3, .int (-1)), (0, .ref 47), (1, .int x1), (2, .int x2)]) C dX6_shortestNext_1 rfl (by decide) rfl ?_
  refine g_iconst (v := 5) C dX6_shortestNext_2 (by decide) ?_
  refine g_istore (L' := [(4, .int 5), (3, .int (-1)), (0, .ref 47), (1, .int x1), (2, .int x2)]) C dX6_shortestNext_3 (by decide) rfl ?_
  refine g_sub [2, 3, 4, 1, 0] rfl ?_
  exact k_f6_shortestNext_5 C x1 x2 (-1) 5 h hR T

theorem ok_f6_shortestNext {l : Launch} {K : Int32 → Prop} (x1 : Int32) (x2 : Int32) (h : Hp) (T : Tt (f6_shortestNext x1 x2 h) K) : Ok ΛC l yX6_shortestNext cX6_shortestNext 5 (some .int) rm_f6_shortestNext [.ref 47, .int x1, .int x2] h (PIs K h) :=
  Ok.of RX6 rfl (by decide) ⟨rfl, rfl⟩ (Nat.le_of_ble_eq_true rfl) (fun x C => k_f6_shortestNext C x1 x2 h (fun v q => ⟨v, rfl, rfl, q⟩) T)

abbrev rm_f6_shortestOf : Room := { frames := 2, cells := 0, slots := 0, locals := 47 }
noncomputable def f6_shortestOf (x1 : Int32) (x2 : Int32) (h : Hp) : Option (Int32) :=
  (f6_shortestNext x1 x2 h).bind fun r1 => if r1 = (-1) then (some 0) else ((f6_lengthBy x1 r1 x2 h).bind fun r3 => some r3)
set_option maxRecDepth 100000 in
set_option maxHeartbeats 4000000 in
theorem k_f6_shortestOf {x : Mx} {l : Launch} {post0 : Option Value → Hp → Prop} (C : Cx ΛC x l RX6 cX6_shortestOf rm_f6_shortestOf (some .int) 4 post0) {K : Int32 → Prop} (x1 : Int32) (x2 : Int32) (h : Hp) (hR : ∀ v : Int32, K v → post0 (some (.int v)) h) (T : Tt (f6_shortestOf x1 x2 h) K) : G ΛC x 0 [(0, .ref 47), (1, .int x1), (2, .int x2)] [] h := by
  refine g_aload_n (q := 0) C dX6_shortestOf_0 rfl rfl ?_
  refine g_iload_n (q := 1) C dX6_shortestOf_1 rfl rfl ?_
  refine g_iload_n (q := 2) C dX6_shortestOf_2 rfl rfl ?_
  refine g_callV (p := 47) (As := [.int x1, .int x2]) C dX6_shortestOf_3 ml_X6_37 yv_f6_shortestNext ⟨rfl, rfl⟩ ⟨Nat.le_of_ble_eq_true rfl, Nat.le_of_ble_eq_true rfl⟩ (hpC rfl rfl) rfl rfl rfl (Nat.le_of_ble_eq_true rfl) (ok_f6_shortestNext x1 x2 h (tt_bind T)) ?_
  rintro _ _ ⟨r1, rfl, rfl, T⟩
  show G ΛC x 6 [(0, .ref 47), (1, .int x1), (2, .int x2)] [.int r1] h
  refine g_istore_n (L' := [(3, .int r1), (0, .ref 47), (1, .int x1), (2, .int x2)]) C dX6_shortestOf_6 rfl (by decide) rfl ?_
  refine g_iload_n (q := 0) C dX6_shortestOf_7 rfl rfl ?_
  refine g_iconst (v := (-1)) C dX6_shortestOf_8 (by decide) ?_
  refine g_icmp_ne (tgt := 16) C dX6_shortestOf_9 (by decide) (fun c2 => ?_) (fun c2 => ?_)
  · have T := tt_f T c2
    refine g_aload_n (q := 1) C dX6_shortestOf_16 rfl rfl ?_
    refine g_iload_n (q := 2) C dX6_shortestOf_17 rfl rfl ?_
    refine g_iload_n (q := 0) C dX6_shortestOf_18 rfl rfl ?_
    refine g_iload_n (q := 3) C dX6_shortestOf_19 rfl rfl ?_
    refine g_callV (p := 47) (As := [.int x1, .int r1, .int x2]) C dX6_shortestOf_20 ml_X6_40 yv_f6_lengthBy ⟨rfl, rfl⟩ ⟨Nat.le_of_ble_eq_true rfl, Nat.le_of_ble_eq_true rfl⟩ (hpC rfl rfl) rfl rfl rfl (Nat.le_of_ble_eq_true rfl) (ok_f6_lengthBy x1 r1 x2 h (tt_bind T)) ?_
    rintro _ _ ⟨r3, rfl, rfl, T⟩
    show G ΛC x 23 [(3, .int r1), (0, .ref 47), (1, .int x1), (2, .int x2)] [.int r3] h
    exact g_iret C dX6_shortestOf_23 (hR _ (tt_some T))
  · have T := tt_t T c2
    refine g_iconst (v := 0) C dX6_shortestOf_12 (by decide) ?_
    refine g_goto (tgt := 23) C dX6_shortestOf_13 (by decide) ?_
    exact g_iret C dX6_shortestOf_23 (hR _ (tt_some T))

theorem ok_f6_shortestOf {l : Launch} {K : Int32 → Prop} (x1 : Int32) (x2 : Int32) (h : Hp) (T : Tt (f6_shortestOf x1 x2 h) K) : Ok ΛC l yX6_shortestOf cX6_shortestOf 4 (some .int) rm_f6_shortestOf [.ref 47, .int x1, .int x2] h (PIs K h) :=
  Ok.of RX6 rfl (by decide) ⟨rfl, rfl⟩ (Nat.le_of_ble_eq_true rfl) (fun x C => k_f6_shortestOf C x1 x2 h (fun v q => ⟨v, rfl, rfl, q⟩) T)

abbrev rm_f6_shortestFrom : Room := { frames := 3, cells := 0, slots := 0, locals := 70 }
noncomputable def f6_shortestFrom (x1 : Int32) (x2 : Int32) (h : Hp) : Option (Int32) :=
  if x2 = 0 then (some 8) else ((f6_shortestOf x1 x2 h).bind fun r2 => some r2)
set_option maxRecDepth 100000 in
set_option maxHeartbeats 4000000 in
theorem k_f6_shortestFrom {x : Mx} {l : Launch} {post0 : Option Value → Hp → Prop} (C : Cx ΛC x l RX6 cX6_shortestFrom rm_f6_shortestFrom (some .int) 3 post0) {K : Int32 → Prop} (x1 : Int32) (x2 : Int32) (h : Hp) (hR : ∀ v : Int32, K v → post0 (some (.int v)) h) (T : Tt (f6_shortestFrom x1 x2 h) K) : G ΛC x 0 [(0, .ref 47), (1, .int x1), (2, .int x2)] [] h := by
  refine g_iload_n (q := 2) C dX6_shortestFrom_0 rfl rfl ?_
  refine g_if_ne (tgt := 9) C dX6_shortestFrom_1 (by decide) (fun c1 => ?_) (fun c1 => ?_)
  · have T := tt_f T c1
    refine g_aload_n (q := 0) C dX6_shortestFrom_9 rfl rfl ?_
    refine g_iload_n (q := 1) C dX6_shortestFrom_10 rfl rfl ?_
    refine g_iload_n (q := 2) C dX6_shortestFrom_11 rfl rfl ?_
    refine g_callV (p := 47) (As := [.int x1, .int x2]) C dX6_shortestFrom_12 ml_X6_34 yv_f6_shortestOf ⟨rfl, rfl⟩ ⟨Nat.le_of_ble_eq_true rfl, Nat.le_of_ble_eq_true rfl⟩ (hpC rfl rfl) rfl rfl rfl (Nat.le_of_ble_eq_true rfl) (ok_f6_shortestOf x1 x2 h (tt_bind T)) ?_
    rintro _ _ ⟨r2, rfl, rfl, T⟩
    show G ΛC x 15 [(0, .ref 47), (1, .int x1), (2, .int x2)] [.int r2] h
    exact g_iret C dX6_shortestFrom_15 (hR _ (tt_some T))
  · have T := tt_t T c1
    refine g_bipush (v := 8) C dX6_shortestFrom_4 (by decide) ?_
    refine g_goto (tgt := 15) C dX6_shortestFrom_6 (by decide) ?_
    exact g_iret C dX6_shortestFrom_15 (hR _ (tt_some T))

theorem ok_f6_shortestFrom {l : Launch} {K : Int32 → Prop} (x1 : Int32) (x2 : Int32) (h : Hp) (T : Tt (f6_shortestFrom x1 x2 h) K) : Ok ΛC l yX6_shortestFrom cX6_shortestFrom 3 (some .int) rm_f6_shortestFrom [.ref 47, .int x1, .int x2] h (PIs K h) :=
  Ok.of RX6 rfl (by decide) ⟨rfl, rfl⟩ (Nat.le_of_ble_eq_true rfl) (fun x C => k_f6_shortestFrom C x1 x2 h (fun v q => ⟨v, rfl, rfl, q⟩) T)

abbrev rm_f6_shortest : Room := { frames := 4, cells := 0, slots := 0, locals := 92 }
noncomputable def f6_shortest_146_s (x3 : Int32) (x4 : Int32) (x5 : Int32) (x6 : Int32) (h : Hp) : Option ((Int32 × Int32 × Int32 × Hp) ⊕ (Int32 × Hp)) :=
  if 6 ≤ x6 then (some (.inr (x3, h))) else (if x5 = 0 then (some (.inr (x3, h))) else ((f6_shortestNext x4 x5 h).bind fun r7 => lt (x5 &&& ((1 <<< (r7 &&& 31)) ^^^ (-1))) fun v8 => gd (inb x6 6) <| lt (wI h 50 (ix x6) r7) fun h10 => lt (wI h10 47 3 ((h10.1 47 3) + 1)) fun h11 => some (.inl (r7, v8, x6 + 1, h11))))
set_option maxRecDepth 100000 in
set_option maxHeartbeats 4000000 in
theorem k_f6_shortest_146_s {x : Mx} {l : Launch} {post0 : Option Value → Hp → Prop} (C : Cx ΛC x l RX6 cX6_shortest rm_f6_shortest (some .int) 7 post0) {K : (Int32 × Int32 × Int32 × Hp) ⊕ (Int32 × Hp) → Prop} (x3 : Int32) (x4 : Int32) (x5 : Int32) (x6 : Int32) (h : Hp) (hR : ∀ (v : Int32) (h : Hp), K (.inr (v, h)) → post0 (some (.int v)) h) (hL146 : ∀ (x4 : Int32) (x5 : Int32) (x6 : Int32) (h : Hp), K (.inl (x4, x5, x6, h)) → G ΛC x 146 [(0, .ref 47), (3, .int x3), (4, .int x4), (5, .int x5), (6, .int x6)] [] h) (T : Tt (f6_shortest_146_s x3 x4 x5 x6 h) K) : G ΛC x 146 [(0, .ref 47), (3, .int x3), (4, .int x4), (5, .int x5), (6, .int x6)] [] h := by
  refine g_iload (q := 4) C dX6_shortest_146 rfl ?_
  refine g_bipush (v := 6) C dX6_shortest_148 (by decide) ?_
  refine g_icmp_ge (tgt := 204) C dX6_shortest_150 (by decide) (fun c5 => ?_) (fun c5 => ?_)
  · have T := tt_t T c5
    refine g_iload_n (q := 1) C dX6_shortest_204 rfl rfl ?_
    exact g_iret C dX6_shortest_205 (hR _ _ (tt_some T))
  · have T := tt_f T c5
    refine g_iload (q := 3) C dX6_shortest_153 rfl ?_
    refine g_if_eq (tgt := 204) C dX6_shortest_155 (by decide) (fun c6 => ?_) (fun c6 => ?_)
    · have T := tt_t T c6
      refine g_iload_n (q := 1) C dX6_shortest_204 rfl rfl ?_
      exact g_iret C dX6_shortest_205 (hR _ _ (tt_some T))
    · have T := tt_f T c6
      refine g_aload_n (q := 0) C dX6_shortest_158 rfl rfl ?_
      refine g_iload (q := 2) C dX6_shortest_159 rfl ?_
      refine g_iload (q := 3) C dX6_shortest_161 rfl ?_
      refine g_callV (p := 47) (As := [.int x4, .int x5]) C dX6_shortest_163 ml_X6_37 yv_f6_shortestNext ⟨rfl, rfl⟩ ⟨Nat.le_of_ble_eq_true rfl, Nat.le_of_ble_eq_true rfl⟩ (hpC rfl rfl) rfl rfl rfl (Nat.le_of_ble_eq_true rfl) (ok_f6_shortestNext x4 x5 h (tt_bind T)) ?_
      rintro _ _ ⟨r7, rfl, rfl, T⟩
      show G ΛC x 166 [(0, .ref 47), (3, .int x3), (4, .int x4), (5, .int x5), (6, .int x6)] [.int r7] h
      refine g_istore (L' := [(4, .int r7), (0, .ref 47), (3, .int x3), (5, .int x5), (6, .int x6)]) C dX6_shortest_166 (by decide) rfl ?_
      refine g_iload (q := 3) C dX6_shortest_168 rfl ?_
      refine g_iconst (v := 1) C dX6_shortest_170 (by decide) ?_
      refine g_iload (q := 0) C dX6_shortest_171 rfl ?_
      refine g_ishl C dX6_shortest_173 ?_
      refine g_iconst (v := (-1)) C dX6_shortest_174 (by decide) ?_
      refine g_ixor C dX6_shortest_175 ?_
      refine g_iand C dX6_shortest_176 ?_
      obtain ⟨v8, ev8, T⟩ := tt_lt T
      refine g_nameI ev8 ?_
      refine g_istore (L' := [(5, .int v8), (4, .int r7), (0, .ref 47), (3, .int x3), (6, .int x6)]) C dX6_shortest_177 (by decide) rfl ?_
      refine g_aload_n (q := 2) C dX6_shortest_179 rfl rfl ?_
      refine g_getF (k := 2) (q := 50) C dX6_shortest_180 (hpC rfl rfl) rfl fl_X6_18 rfl rfl ?_
      refine g_iload (q := 4) C dX6_shortest_183 rfl ?_
      refine g_iload (q := 1) C dX6_shortest_185 rfl ?_
      obtain ⟨g9, T⟩ := tt_gd T
      obtain ⟨h10, eh10, T⟩ := tt_lt T
      refine g_iast C dX6_shortest_187 (hpC rfl rfl) rfl (inb_of rfl g9) eh10 ?_
      refine g_aload_n (q := 2) C dX6_shortest_188 rfl rfl ?_
      refine g_dup C dX6_shortest_189 rfl ?_
      refine g_getI (k := 3) C dX6_shortest_190 (hpC rfl rfl) rfl fl_X6_21 rfl ?_
      refine g_iconst (v := 1) C dX6_shortest_193 (by decide) ?_
      refine g_iadd C dX6_shortest_194 ?_
      obtain ⟨h11, eh11, T⟩ := tt_lt T
      refine g_putI (k := 3) C dX6_shortest_195 (hpC rfl rfl) rfl fp_X6_21 rfl eh11 ?_
      refine g_iinc (v := x6 + 1) (q := 4) (L' := [(6, .int (x6 + 1)), (5, .int v8), (4, .int r7), (0, .ref 47), (3, .int x3)]) C dX6_shortest_198 rfl (by first | rfl | exact congrArg _ (by decide)) (by decide) rfl ?_
      refine g_goto (tgt := 146) C dX6_shortest_201 (by decide) ?_
      refine g_sub [3, 4, 2, 1, 0] rfl ?_
      exact hL146 _ _ _ _ (tt_some T)

noncomputable def f6_shortest_146 (x3 : Int32) (x4 : Int32) (x5 : Int32) (x6 : Int32) (h : Hp) : Option (Int32 × Hp) := lp (fun z : Int32 × Int32 × Int32 × Hp => f6_shortest_146_s x3 z.1 z.2.1 z.2.2.1 z.2.2.2) (x4, x5, x6, h)
theorem k_f6_shortest_146 {x : Mx} {l : Launch} {post0 : Option Value → Hp → Prop} (C : Cx ΛC x l RX6 cX6_shortest rm_f6_shortest (some .int) 7 post0) {K : Int32 × Hp → Prop} (x3 : Int32) (x4 : Int32) (x5 : Int32) (x6 : Int32) (h : Hp) (hR : ∀ (v : Int32) (h : Hp), K (v, h) → post0 (some (.int v)) h) (T : Tt (f6_shortest_146 x3 x4 x5 x6 h) K) : G ΛC x 146 [(0, .ref 47), (3, .int x3), (4, .int x4), (5, .int x5), (6, .int x6)] [] h :=
  lp_ind (f := fun z : Int32 × Int32 × Int32 × Hp => f6_shortest_146_s x3 z.1 z.2.1 z.2.2.1 z.2.2.2) (P := fun z : Int32 × Int32 × Int32 × Hp => G ΛC x 146 [(0, .ref 47), (3, .int x3), (4, .int z.1), (5, .int z.2.1), (6, .int z.2.2.1)] [] z.2.2.2) (K := K) (fun z T => k_f6_shortest_146_s C (K := KS (fun z : Int32 × Int32 × Int32 × Hp => G ΛC x 146 [(0, .ref 47), (3, .int x3), (4, .int z.1), (5, .int z.2.1), (6, .int z.2.2.1)] [] z.2.2.2) K) x3 z.1 z.2.1 z.2.2.1 z.2.2.2 hR (fun _ _ _ _ q => q) T) (x4, x5, x6, h) T
noncomputable def f6_shortest_130 (x2 : Int32) (h : Hp) : Option (Int32 × Hp) :=
  (f6_shortestOf (-1) x2 h).bind fun r4 => f6_shortest_146 r4 (-1) x2 0 h
set_option maxRecDepth 100000 in
set_option maxHeartbeats 4000000 in
theorem k_f6_shortest_130 {x : Mx} {l : Launch} {post0 : Option Value → Hp → Prop} (C : Cx ΛC x l RX6 cX6_shortest rm_f6_shortest (some .int) 7 post0) {K : Int32 × Hp → Prop} (x2 : Int32) (h : Hp) (hR : ∀ (v : Int32) (h : Hp), K (v, h) → post0 (some (.int v)) h) (T : Tt (f6_shortest_130 x2 h) K) : G ΛC x 130 [(0, .ref 47), (2, .int x2)] [] h := by
  refine g_aload_n (q := 0) C dX6_shortest_130 rfl rfl ?_
  refine g_iconst (v := (-1)) C dX6_shortest_131 (by decide) ?_
  refine g_iload_n (q := 1) C dX6_shortest_132 rfl rfl ?_
  refine g_callV (p := 47) (As := [.int (-1), .int x2]) C dX6_shortest_133 ml_X6_34 yv_f6_shortestOf ⟨rfl, rfl⟩ ⟨Nat.le_of_ble_eq_true rfl, Nat.le_of_ble_eq_true rfl⟩ (hpC rfl rfl) rfl rfl rfl (Nat.le_of_ble_eq_true rfl) (ok_f6_shortestOf (-1) x2 h (tt_bind T)) ?_
  rintro _ _ ⟨r4, rfl, rfl, T⟩
  show G ΛC x 136 [(0, .ref 47), (2, .int x2)] [.int r4] h
  refine g_istore_n (L' := [(3, .int r4), (0, .ref 47), (2, .int x2)]) C dX6_shortest_136 rfl (by decide) rfl ?_
  refine g_iconst (v := (-1)) C dX6_shortest_137 (by decide) ?_
  refine g_istore (L' := [(4, .int (-1)), (3, .int r4), (0, .ref 47), (2, .int x2)]) C dX6_shortest_138 (by decide) rfl ?_
  refine g_iload_n (q := 3) C dX6_shortest_140 rfl rfl ?_
  refine g_istore (L' := [(5, .int x2), (4, .int (-1)), (3, .int r4), (0, .ref 47), (2, .int x2)]) C dX6_shortest_141 (by decide) rfl ?_
  refine g_iconst (v := 0) C dX6_shortest_143 (by decide) ?_
  refine g_istore (L' := [(6, .int 0), (5, .int x2), (4, .int (-1)), (3, .int r4), (0, .ref 47), (2, .int x2)]) C dX6_shortest_144 (by decide) rfl ?_
  refine g_sub [4, 3, 2, 1, 0] rfl ?_
  exact k_f6_shortest_146 C r4 (-1) x2 0 h hR T

noncomputable def f6_shortest_124 (x2 : Int32) (x3 : Int32) (h : Hp) : Option ((Int32 × Hp) ⊕ (Int32 × Hp)) :=
  some (.inl (x3 + 1, h))
set_option maxRecDepth 100000 in
set_option maxHeartbeats 4000000 in
theorem k_f6_shortest_124 {x : Mx} {l : Launch} {post0 : Option Value → Hp → Prop} (C : Cx ΛC x l RX6 cX6_shortest rm_f6_shortest (some .int) 7 post0) {K : (Int32 × Hp) ⊕ (Int32 × Hp) → Prop} (x2 : Int32) (x3 : Int32) (h : Hp) (hR : ∀ (v : Int32) (h : Hp), K (.inr (v, h)) → post0 (some (.int v)) h) (hL59 : ∀ (x3 : Int32) (h : Hp), K (.inl (x3, h)) → G ΛC x 59 [(0, .ref 47), (2, .int x2), (3, .int x3)] [] h) (T : Tt (f6_shortest_124 x2 x3 h) K) : G ΛC x 124 [(0, .ref 47), (2, .int x2), (3, .int x3)] [] h := by
  refine g_iinc (v := x3 + 1) (q := 2) (L' := [(3, .int (x3 + 1)), (0, .ref 47), (2, .int x2)]) C dX6_shortest_124 rfl (by first | rfl | exact congrArg _ (by decide)) (by decide) rfl ?_
  refine g_goto (tgt := 59) C dX6_shortest_127 (by decide) ?_
  refine g_sub [1, 2, 0] rfl ?_
  exact hL59 _ _ (tt_some T)

noncomputable def f6_shortest_118 (x2 : Int32) (x3 : Int32) (x4 : Int32) (h : Hp) : Option ((Int32 × Hp) ⊕ ((Int32 × Hp) ⊕ (Int32 × Hp))) :=
  some (.inl (x4 + 1, h))
set_option maxRecDepth 100000 in
set_option maxHeartbeats 4000000 in
theorem k_f6_shortest_118 {x : Mx} {l : Launch} {post0 : Option Value → Hp → Prop} (C : Cx ΛC x l RX6 cX6_shortest rm_f6_shortest (some .int) 7 post0) {K : (Int32 × Hp) ⊕ ((Int32 × Hp) ⊕ (Int32 × Hp)) → Prop} (x2 : Int32) (x3 : Int32) (x4 : Int32) (h : Hp) (hR : ∀ (v : Int32) (h : Hp), K (.inr (.inr (v, h))) → post0 (some (.int v)) h) (hL59 : ∀ (x3 : Int32) (h : Hp), K (.inr (.inl (x3, h))) → G ΛC x 59 [(0, .ref 47), (2, .int x2), (3, .int x3)] [] h) (hL67 : ∀ (x4 : Int32) (h : Hp), K (.inl (x4, h)) → G ΛC x 67 [(0, .ref 47), (2, .int x2), (3, .int x3), (4, .int x4)] [] h) (T : Tt (f6_shortest_118 x2 x3 x4 h) K) : G ΛC x 118 [(0, .ref 47), (2, .int x2), (3, .int x3), (4, .int x4)] [] h := by
  refine g_iinc (v := x4 + 1) (q := 3) (L' := [(4, .int (x4 + 1)), (0, .ref 47), (2, .int x2), (3, .int x3)]) C dX6_shortest_118 rfl (by first | rfl | exact congrArg _ (by decide)) (by decide) rfl ?_
  refine g_goto (tgt := 67) C dX6_shortest_121 (by decide) ?_
  refine g_sub [1, 2, 3, 0] rfl ?_
  exact hL67 _ _ (tt_some T)

noncomputable def f6_shortest_67_s (x2 : Int32) (x3 : Int32) (x4 : Int32) (h : Hp) : Option ((Int32 × Hp) ⊕ ((Int32 × Hp) ⊕ (Int32 × Hp))) :=
  if 6 ≤ x4 then ((f6_shortest_124 x2 x3 h).map (fun z => .inr (z))) else (if x3 &&& (x2 ^^^ (-1)) = 0 then (if (x3 >>> (x4 &&& 31)) &&& 1 = 1 then ((f6_shortestFrom x4 (x3 &&& ((1 <<< (x4 &&& 31)) ^^^ (-1))) h).bind fun r15 => gd (inb ((x3 * 6) + x4) 384) <| lt (wI h 48 (ix ((x3 * 6) + x4)) r15) fun h17 => f6_shortest_118 x2 x3 x4 h17) else (f6_shortest_118 x2 x3 x4 h)) else (f6_shortest_118 x2 x3 x4 h))
set_option maxRecDepth 100000 in
set_option maxHeartbeats 4000000 in
theorem k_f6_shortest_67_s {x : Mx} {l : Launch} {post0 : Option Value → Hp → Prop} (C : Cx ΛC x l RX6 cX6_shortest rm_f6_shortest (some .int) 7 post0) {K : (Int32 × Hp) ⊕ ((Int32 × Hp) ⊕ (Int32 × Hp)) → Prop} (x2 : Int32) (x3 : Int32) (x4 : Int32) (h : Hp) (hR : ∀ (v : Int32) (h : Hp), K (.inr (.inr (v, h))) → post0 (some (.int v)) h) (hL59 : ∀ (x3 : Int32) (h : Hp), K (.inr (.inl (x3, h))) → G ΛC x 59 [(0, .ref 47), (2, .int x2), (3, .int x3)] [] h) (hL67 : ∀ (x4 : Int32) (h : Hp), K (.inl (x4, h)) → G ΛC x 67 [(0, .ref 47), (2, .int x2), (3, .int x3), (4, .int x4)] [] h) (T : Tt (f6_shortest_67_s x2 x3 x4 h) K) : G ΛC x 67 [(0, .ref 47), (2, .int x2), (3, .int x3), (4, .int x4)] [] h := by
  refine g_iload (q := 3) C dX6_shortest_67 rfl ?_
  refine g_bipush (v := 6) C dX6_shortest_69 (by decide) ?_
  refine g_icmp_ge (tgt := 124) C dX6_shortest_71 (by decide) (fun c12 => ?_) (fun c12 => ?_)
  · have T := tt_t T c12
    refine g_sub [0, 1, 2] rfl ?_
    exact k_f6_shortest_124 C x2 x3 h hR hL59 (tt_map T)
  · have T := tt_f T c12
    refine g_iload_n (q := 2) C dX6_shortest_74 rfl rfl ?_
    refine g_iload_n (q := 1) C dX6_shortest_75 rfl rfl ?_
    refine g_iconst (v := (-1)) C dX6_shortest_76 (by decide) ?_
    refine g_ixor C dX6_shortest_77 ?_
    refine g_iand C dX6_shortest_78 ?_
    refine g_if_ne (tgt := 118) C dX6_shortest_79 (by decide) (fun c13 => ?_) (fun c13 => ?_)
    · have T := tt_f T c13
      exact k_f6_shortest_118 C x2 x3 x4 h hR hL59 hL67 T
    · have T := tt_t T c13
      refine g_iload_n (q := 2) C dX6_shortest_82 rfl rfl ?_
      refine g_iload (q := 3) C dX6_shortest_83 rfl ?_
      refine g_ishr C dX6_shortest_85 ?_
      refine g_iconst (v := 1) C dX6_shortest_86 (by decide) ?_
      refine g_iand C dX6_shortest_87 ?_
      refine g_iconst (v := 1) C dX6_shortest_88 (by decide) ?_
      refine g_icmp_ne (tgt := 118) C dX6_shortest_89 (by decide) (fun c14 => ?_) (fun c14 => ?_)
      · have T := tt_f T c14
        exact k_f6_shortest_118 C x2 x3 x4 h hR hL59 hL67 T
      · have T := tt_t T c14
        refine g_aload_n (q := 0) C dX6_shortest_92 rfl rfl ?_
        refine g_getF (k := 0) (q := 48) C dX6_shortest_93 (hpC rfl rfl) rfl fl_X6_9 rfl rfl ?_
        refine g_iload_n (q := 2) C dX6_shortest_96 rfl rfl ?_
        refine g_bipush (v := 6) C dX6_shortest_97 (by decide) ?_
        refine g_imul C dX6_shortest_99 ?_
        refine g_iload (q := 3) C dX6_shortest_100 rfl ?_
        refine g_iadd C dX6_shortest_102 ?_
        refine g_aload_n (q := 0) C dX6_shortest_103 rfl rfl ?_
        refine g_iload (q := 3) C dX6_shortest_104 rfl ?_
        refine g_iload_n (q := 2) C dX6_shortest_106 rfl rfl ?_
        refine g_iconst (v := 1) C dX6_shortest_107 (by decide) ?_
        refine g_iload (q := 3) C dX6_shortest_108 rfl ?_
        refine g_ishl C dX6_shortest_110 ?_
        refine g_iconst (v := (-1)) C dX6_shortest_111 (by decide) ?_
        refine g_ixor C dX6_shortest_112 ?_
        refine g_iand C dX6_shortest_113 ?_
        refine g_callV (p := 47) (As := [.int x4, .int (x3 &&& ((1 <<< (x4 &&& 31)) ^^^ (-1)))]) C dX6_shortest_114 ml_X6_31 yv_f6_shortestFrom ⟨rfl, rfl⟩ ⟨Nat.le_of_ble_eq_true rfl, Nat.le_of_ble_eq_true rfl⟩ (hpC rfl rfl) rfl rfl rfl (Nat.le_of_ble_eq_true rfl) (ok_f6_shortestFrom x4 (x3 &&& ((1 <<< (x4 &&& 31)) ^^^ (-1))) h (tt_bind T)) ?_
        rintro _ _ ⟨r15, rfl, rfl, T⟩
        show G ΛC x 117 [(0, .ref 47), (2, .int x2), (3, .int x3), (4, .int x4)] [.int r15, .int ((x3 * 6) + x4), .ref 48] h
        obtain ⟨g16, T⟩ := tt_gd T
        obtain ⟨h17, eh17, T⟩ := tt_lt T
        refine g_iast C dX6_shortest_117 (hpC rfl rfl) rfl (inb_of rfl g16) eh17 ?_
        exact k_f6_shortest_118 C x2 x3 x4 h17 hR hL59 hL67 T

noncomputable def f6_shortest_67 (x2 : Int32) (x3 : Int32) (x4 : Int32) (h : Hp) : Option ((Int32 × Hp) ⊕ (Int32 × Hp)) := lp (fun z : Int32 × Hp => f6_shortest_67_s x2 x3 z.1 z.2) (x4, h)
theorem k_f6_shortest_67 {x : Mx} {l : Launch} {post0 : Option Value → Hp → Prop} (C : Cx ΛC x l RX6 cX6_shortest rm_f6_shortest (some .int) 7 post0) {K : (Int32 × Hp) ⊕ (Int32 × Hp) → Prop} (x2 : Int32) (x3 : Int32) (x4 : Int32) (h : Hp) (hR : ∀ (v : Int32) (h : Hp), K (.inr (v, h)) → post0 (some (.int v)) h) (hL59 : ∀ (x3 : Int32) (h : Hp), K (.inl (x3, h)) → G ΛC x 59 [(0, .ref 47), (2, .int x2), (3, .int x3)] [] h) (T : Tt (f6_shortest_67 x2 x3 x4 h) K) : G ΛC x 67 [(0, .ref 47), (2, .int x2), (3, .int x3), (4, .int x4)] [] h :=
  lp_ind (f := fun z : Int32 × Hp => f6_shortest_67_s x2 x3 z.1 z.2) (P := fun z : Int32 × Hp => G ΛC x 67 [(0, .ref 47), (2, .int x2), (3, .int x3), (4, .int z.1)] [] z.2) (K := K) (fun z T => k_f6_shortest_67_s C (K := KS (fun z : Int32 × Hp => G ΛC x 67 [(0, .ref 47), (2, .int x2), (3, .int x3), (4, .int z.1)] [] z.2) K) x2 x3 z.1 z.2 hR hL59 (fun _ _ q => q) T) (x4, h) T
noncomputable def f6_shortest_59_s (x2 : Int32) (x3 : Int32) (h : Hp) : Option ((Int32 × Hp) ⊕ (Int32 × Hp)) :=
  if x2 < x3 then ((f6_shortest_130 x2 h).map (fun z => .inr (z))) else (f6_shortest_67 x2 x3 0 h)
set_option maxRecDepth 100000 in
set_option maxHeartbeats 4000000 in
theorem k_f6_shortest_59_s {x : Mx} {l : Launch} {post0 : Option Value → Hp → Prop} (C : Cx ΛC x l RX6 cX6_shortest rm_f6_shortest (some .int) 7 post0) {K : (Int32 × Hp) ⊕ (Int32 × Hp) → Prop} (x2 : Int32) (x3 : Int32) (h : Hp) (hR : ∀ (v : Int32) (h : Hp), K (.inr (v, h)) → post0 (some (.int v)) h) (hL59 : ∀ (x3 : Int32) (h : Hp), K (.inl (x3, h)) → G ΛC x 59 [(0, .ref 47), (2, .int x2), (3, .int x3)] [] h) (T : Tt (f6_shortest_59_s x2 x3 h) K) : G ΛC x 59 [(0, .ref 47), (2, .int x2), (3, .int x3)] [] h := by
  refine g_iload_n (q := 2) C dX6_shortest_59 rfl rfl ?_
  refine g_iload_n (q := 1) C dX6_shortest_60 rfl rfl ?_
  refine g_icmp_gt (tgt := 130) C dX6_shortest_61 (by decide) (fun c3 => ?_) (fun c3 => ?_)
  · have T := tt_t T c3
    refine g_sub [0, 1] rfl ?_
    exact k_f6_shortest_130 C x2 h hR (tt_map T)
  · have T := tt_f T c3
    refine g_iconst (v := 0) C dX6_shortest_64 (by decide) ?_
    refine g_istore (L' := [(4, .int 0), (0, .ref 47), (2, .int x2), (3, .int x3)]) C dX6_shortest_65 (by decide) rfl ?_
    refine g_sub [1, 2, 3, 0] rfl ?_
    exact k_f6_shortest_67 C x2 x3 0 h hR hL59 T

noncomputable def f6_shortest_59 (x2 : Int32) (x3 : Int32) (h : Hp) : Option (Int32 × Hp) := lp (fun z : Int32 × Hp => f6_shortest_59_s x2 z.1 z.2) (x3, h)
theorem k_f6_shortest_59 {x : Mx} {l : Launch} {post0 : Option Value → Hp → Prop} (C : Cx ΛC x l RX6 cX6_shortest rm_f6_shortest (some .int) 7 post0) {K : Int32 × Hp → Prop} (x2 : Int32) (x3 : Int32) (h : Hp) (hR : ∀ (v : Int32) (h : Hp), K (v, h) → post0 (some (.int v)) h) (T : Tt (f6_shortest_59 x2 x3 h) K) : G ΛC x 59 [(0, .ref 47), (2, .int x2), (3, .int x3)] [] h :=
  lp_ind (f := fun z : Int32 × Hp => f6_shortest_59_s x2 z.1 z.2) (P := fun z : Int32 × Hp => G ΛC x 59 [(0, .ref 47), (2, .int x2), (3, .int z.1)] [] z.2) (K := K) (fun z T => k_f6_shortest_59_s C (K := KS (fun z : Int32 × Hp => G ΛC x 59 [(0, .ref 47), (2, .int x2), (3, .int z.1)] [] z.2) K) x2 z.1 z.2 hR (fun _ _ q => q) T) (x3, h) T
noncomputable def f6_shortest_57 (x2 : Int32) (h : Hp) : Option (Int32 × Hp) :=
  f6_shortest_59 x2 1 h
set_option maxRecDepth 100000 in
set_option maxHeartbeats 4000000 in
theorem k_f6_shortest_57 {x : Mx} {l : Launch} {post0 : Option Value → Hp → Prop} (C : Cx ΛC x l RX6 cX6_shortest rm_f6_shortest (some .int) 7 post0) {K : Int32 × Hp → Prop} (x2 : Int32) (h : Hp) (hR : ∀ (v : Int32) (h : Hp), K (v, h) → post0 (some (.int v)) h) (T : Tt (f6_shortest_57 x2 h) K) : G ΛC x 57 [(0, .ref 47), (2, .int x2)] [] h := by
  refine g_iconst (v := 1) C dX6_shortest_57 (by decide) ?_
  refine g_istore_n (L' := [(3, .int 1), (0, .ref 47), (2, .int x2)]) C dX6_shortest_58 rfl (by decide) rfl ?_
  refine g_sub [1, 2, 0] rfl ?_
  exact k_f6_shortest_59 C x2 1 h hR T

noncomputable def f6_shortest_51 (x2 : Int32) (x3 : Int32) (h : Hp) : Option ((Int32 × Hp) ⊕ (Int32 × Hp)) :=
  some (.inl (x3 + 1, h))
set_option maxRecDepth 100000 in
set_option maxHeartbeats 4000000 in
theorem k_f6_shortest_51 {x : Mx} {l : Launch} {post0 : Option Value → Hp → Prop} (C : Cx ΛC x l RX6 cX6_shortest rm_f6_shortest (some .int) 7 post0) {K : (Int32 × Hp) ⊕ (Int32 × Hp) → Prop} (x2 : Int32) (x3 : Int32) (h : Hp) (hR : ∀ (v : Int32) (h : Hp), K (.inr (v, h)) → post0 (some (.int v)) h) (hL7 : ∀ (x3 : Int32) (h : Hp), K (.inl (x3, h)) → G ΛC x 7 [(0, .ref 47), (1, .ref 45), (2, .int x2), (3, .int x3)] [] h) (T : Tt (f6_shortest_51 x2 x3 h) K) : G ΛC x 51 [(0, .ref 47), (1, .ref 45), (2, .int x2), (3, .int x3)] [] h := by
  refine g_iinc (v := x3 + 1) (q := 3) (L' := [(3, .int (x3 + 1)), (0, .ref 47), (1, .ref 45), (2, .int x2)]) C dX6_shortest_51 rfl (by first | rfl | exact congrArg _ (by decide)) (by decide) rfl ?_
  refine g_goto (tgt := 7) C dX6_shortest_54 (by decide) ?_
  refine g_sub [1, 2, 3, 0] rfl ?_
  exact hL7 _ _ (tt_some T)

noncomputable def f6_shortest_16_s (x2 : Int32) (x3 : Int32) (x4 : Int32) (h : Hp) : Option ((Int32 × Hp) ⊕ ((Int32 × Hp) ⊕ (Int32 × Hp))) :=
  if 6 ≤ x4 then ((f6_shortest_51 x2 x3 h).map (fun z => .inr (z))) else ((f2_overlap x3 x4 h).bind fun r19 => gd (inb ((x3 * 6) + x4) 36) <| lt (wI h 49 (ix ((x3 * 6) + x4)) (8 - r19)) fun h21 => some (.inl (x4 + 1, h21)))
set_option maxRecDepth 100000 in
set_option maxHeartbeats 4000000 in
theorem k_f6_shortest_16_s {x : Mx} {l : Launch} {post0 : Option Value → Hp → Prop} (C : Cx ΛC x l RX6 cX6_shortest rm_f6_shortest (some .int) 7 post0) {K : (Int32 × Hp) ⊕ ((Int32 × Hp) ⊕ (Int32 × Hp)) → Prop} (x2 : Int32) (x3 : Int32) (x4 : Int32) (h : Hp) (hR : ∀ (v : Int32) (h : Hp), K (.inr (.inr (v, h))) → post0 (some (.int v)) h) (hL7 : ∀ (x3 : Int32) (h : Hp), K (.inr (.inl (x3, h))) → G ΛC x 7 [(0, .ref 47), (1, .ref 45), (2, .int x2), (3, .int x3)] [] h) (hL16 : ∀ (x4 : Int32) (h : Hp), K (.inl (x4, h)) → G ΛC x 16 [(0, .ref 47), (1, .ref 45), (2, .int x2), (3, .int x3), (4, .int x4)] [] h) (T : Tt (f6_shortest_16_s x2 x3 x4 h) K) : G ΛC x 16 [(0, .ref 47), (1, .ref 45), (2, .int x2), (3, .int x3), (4, .int x4)] [] h := by
  refine g_iload (q := 4) C dX6_shortest_16 rfl ?_
  refine g_bipush (v := 6) C dX6_shortest_18 (by decide) ?_
  refine g_icmp_ge (tgt := 51) C dX6_shortest_20 (by decide) (fun c18 => ?_) (fun c18 => ?_)
  · have T := tt_t T c18
    refine g_sub [0, 1, 2, 3] rfl ?_
    exact k_f6_shortest_51 C x2 x3 h hR hL7 (tt_map T)
  · have T := tt_f T c18
    refine g_aload_n (q := 0) C dX6_shortest_23 rfl rfl ?_
    refine g_getF (k := 1) (q := 49) C dX6_shortest_24 (hpC rfl rfl) rfl fl_X6_15 rfl rfl ?_
    refine g_iload_n (q := 3) C dX6_shortest_27 rfl rfl ?_
    refine g_bipush (v := 6) C dX6_shortest_28 (by decide) ?_
    refine g_imul C dX6_shortest_30 ?_
    refine g_iload (q := 4) C dX6_shortest_31 rfl ?_
    refine g_iadd C dX6_shortest_33 ?_
    refine g_bipush (v := 8) C dX6_shortest_34 (by decide) ?_
    refine g_aload_n (q := 1) C dX6_shortest_36 rfl rfl ?_
    refine g_iload_n (q := 3) C dX6_shortest_37 rfl rfl ?_
    refine g_iload (q := 4) C dX6_shortest_38 rfl ?_
    refine g_callV (p := 45) (As := [.int x3, .int x4]) C dX6_shortest_40 ml_X6_25 yv_f2_overlap ⟨rfl, rfl⟩ ⟨Nat.le_of_ble_eq_true rfl, Nat.le_of_ble_eq_true rfl⟩ (hpC rfl rfl) rfl rfl rfl (Nat.le_of_ble_eq_true rfl) (ok_f2_overlap x3 x4 h (tt_bind T)) ?_
    rintro _ _ ⟨r19, rfl, rfl, T⟩
    show G ΛC x 43 [(0, .ref 47), (1, .ref 45), (2, .int x2), (3, .int x3), (4, .int x4)] [.int r19, .int 8, .int ((x3 * 6) + x4), .ref 49] h
    refine g_isub C dX6_shortest_43 ?_
    obtain ⟨g20, T⟩ := tt_gd T
    obtain ⟨h21, eh21, T⟩ := tt_lt T
    refine g_iast C dX6_shortest_44 (hpC rfl rfl) rfl (inb_of rfl g20) eh21 ?_
    refine g_iinc (v := x4 + 1) (q := 4) (L' := [(4, .int (x4 + 1)), (0, .ref 47), (1, .ref 45), (2, .int x2), (3, .int x3)]) C dX6_shortest_45 rfl (by first | rfl | exact congrArg _ (by decide)) (by decide) rfl ?_
    refine g_goto (tgt := 16) C dX6_shortest_48 (by decide) ?_
    refine g_sub [1, 2, 3, 4, 0] rfl ?_
    exact hL16 _ _ (tt_some T)

noncomputable def f6_shortest_16 (x2 : Int32) (x3 : Int32) (x4 : Int32) (h : Hp) : Option ((Int32 × Hp) ⊕ (Int32 × Hp)) := lp (fun z : Int32 × Hp => f6_shortest_16_s x2 x3 z.1 z.2) (x4, h)
theorem k_f6_shortest_16 {x : Mx} {l : Launch} {post0 : Option Value → Hp → Prop} (C : Cx ΛC x l RX6 cX6_shortest rm_f6_shortest (some .int) 7 post0) {K : (Int32 × Hp) ⊕ (Int32 × Hp) → Prop} (x2 : Int32) (x3 : Int32) (x4 : Int32) (h : Hp) (hR : ∀ (v : Int32) (h : Hp), K (.inr (v, h)) → post0 (some (.int v)) h) (hL7 : ∀ (x3 : Int32) (h : Hp), K (.inl (x3, h)) → G ΛC x 7 [(0, .ref 47), (1, .ref 45), (2, .int x2), (3, .int x3)] [] h) (T : Tt (f6_shortest_16 x2 x3 x4 h) K) : G ΛC x 16 [(0, .ref 47), (1, .ref 45), (2, .int x2), (3, .int x3), (4, .int x4)] [] h :=
  lp_ind (f := fun z : Int32 × Hp => f6_shortest_16_s x2 x3 z.1 z.2) (P := fun z : Int32 × Hp => G ΛC x 16 [(0, .ref 47), (1, .ref 45), (2, .int x2), (3, .int x3), (4, .int z.1)] [] z.2) (K := K) (fun z T => k_f6_shortest_16_s C (K := KS (fun z : Int32 × Hp => G ΛC x 16 [(0, .ref 47), (1, .ref 45), (2, .int x2), (3, .int x3), (4, .int z.1)] [] z.2) K) x2 x3 z.1 z.2 hR hL7 (fun _ _ q => q) T) (x4, h) T
noncomputable def f6_shortest_7_s (x2 : Int32) (x3 : Int32) (h : Hp) : Option ((Int32 × Hp) ⊕ (Int32 × Hp)) :=
  if 6 ≤ x3 then ((f6_shortest_57 x2 h).map (fun z => .inr (z))) else (f6_shortest_16 x2 x3 0 h)
set_option maxRecDepth 100000 in
set_option maxHeartbeats 4000000 in
theorem k_f6_shortest_7_s {x : Mx} {l : Launch} {post0 : Option Value → Hp → Prop} (C : Cx ΛC x l RX6 cX6_shortest rm_f6_shortest (some .int) 7 post0) {K : (Int32 × Hp) ⊕ (Int32 × Hp) → Prop} (x2 : Int32) (x3 : Int32) (h : Hp) (hR : ∀ (v : Int32) (h : Hp), K (.inr (v, h)) → post0 (some (.int v)) h) (hL7 : ∀ (x3 : Int32) (h : Hp), K (.inl (x3, h)) → G ΛC x 7 [(0, .ref 47), (1, .ref 45), (2, .int x2), (3, .int x3)] [] h) (T : Tt (f6_shortest_7_s x2 x3 h) K) : G ΛC x 7 [(0, .ref 47), (1, .ref 45), (2, .int x2), (3, .int x3)] [] h := by
  refine g_iload_n (q := 3) C dX6_shortest_7 rfl rfl ?_
  refine g_bipush (v := 6) C dX6_shortest_8 (by decide) ?_
  refine g_icmp_ge (tgt := 57) C dX6_shortest_10 (by decide) (fun c2 => ?_) (fun c2 => ?_)
  · have T := tt_t T c2
    refine g_sub [0, 2] rfl ?_
    exact k_f6_shortest_57 C x2 h hR (tt_map T)
  · have T := tt_f T c2
    refine g_iconst (v := 0) C dX6_shortest_13 (by decide) ?_
    refine g_istore (L' := [(4, .int 0), (0, .ref 47), (1, .ref 45), (2, .int x2), (3, .int x3)]) C dX6_shortest_14 (by decide) rfl ?_
    refine g_sub [1, 2, 3, 4, 0] rfl ?_
    exact k_f6_shortest_16 C x2 x3 0 h hR hL7 T

noncomputable def f6_shortest_7 (x2 : Int32) (x3 : Int32) (h : Hp) : Option (Int32 × Hp) := lp (fun z : Int32 × Hp => f6_shortest_7_s x2 z.1 z.2) (x3, h)
theorem k_f6_shortest_7 {x : Mx} {l : Launch} {post0 : Option Value → Hp → Prop} (C : Cx ΛC x l RX6 cX6_shortest rm_f6_shortest (some .int) 7 post0) {K : Int32 × Hp → Prop} (x2 : Int32) (x3 : Int32) (h : Hp) (hR : ∀ (v : Int32) (h : Hp), K (v, h) → post0 (some (.int v)) h) (T : Tt (f6_shortest_7 x2 x3 h) K) : G ΛC x 7 [(0, .ref 47), (1, .ref 45), (2, .int x2), (3, .int x3)] [] h :=
  lp_ind (f := fun z : Int32 × Hp => f6_shortest_7_s x2 z.1 z.2) (P := fun z : Int32 × Hp => G ΛC x 7 [(0, .ref 47), (1, .ref 45), (2, .int x2), (3, .int z.1)] [] z.2) (K := K) (fun z T => k_f6_shortest_7_s C (K := KS (fun z : Int32 × Hp => G ΛC x 7 [(0, .ref 47), (1, .ref 45), (2, .int x2), (3, .int z.1)] [] z.2) K) x2 z.1 z.2 hR (fun _ _ q => q) T) (x3, h) T
noncomputable def f6_shortest (x2 : Int32) (h : Hp) : Option (Int32 × Hp) :=
  lt (wI h 47 3 0) fun h1 => f6_shortest_7 x2 0 h1
set_option maxRecDepth 100000 in
set_option maxHeartbeats 4000000 in
theorem k_f6_shortest {x : Mx} {l : Launch} {post0 : Option Value → Hp → Prop} (C : Cx ΛC x l RX6 cX6_shortest rm_f6_shortest (some .int) 7 post0) {K : Int32 × Hp → Prop} (x2 : Int32) (h : Hp) (hR : ∀ (v : Int32) (h : Hp), K (v, h) → post0 (some (.int v)) h) (T : Tt (f6_shortest x2 h) K) : G ΛC x 0 [(0, .ref 47), (1, .ref 45), (2, .int x2)] [] h := by
  refine g_aload_n (q := 0) C dX6_shortest_0 rfl rfl ?_
  refine g_iconst (v := 0) C dX6_shortest_1 (by decide) ?_
  obtain ⟨h1, eh1, T⟩ := tt_lt T
  refine g_putI (k := 3) C dX6_shortest_2 (hpC rfl rfl) rfl fp_X6_21 rfl eh1 ?_
  refine g_iconst (v := 0) C dX6_shortest_5 (by decide) ?_
  refine g_istore_n (L' := [(3, .int 0), (0, .ref 47), (1, .ref 45), (2, .int x2)]) C dX6_shortest_6 rfl (by decide) rfl ?_
  refine g_sub [1, 2, 3, 0] rfl ?_
  exact k_f6_shortest_7 C x2 0 h1 hR T

theorem ok_f6_shortest {l : Launch} {K : Int32 × Hp → Prop} (x2 : Int32) (h : Hp) (T : Tt (f6_shortest x2 h) K) : Ok ΛC l yX6_shortest cX6_shortest 7 (some .int) rm_f6_shortest [.ref 47, .ref 45, .int x2] h (PIw K) :=
  Ok.of RX6 rfl (by decide) ⟨rfl, rfl⟩ (Nat.le_of_ble_eq_true rfl) (fun x C => k_f6_shortest C x2 h (fun v _ q => ⟨v, rfl, q⟩) T)

abbrev rm_f2_firstMinute : Room := { frames := 2, cells := 0, slots := 0, locals := 46 }
noncomputable def f2_firstMinute_17_s (x1 : Int32) (x2 : Int32) (x3 : Int32) (x4 : Int32) (x5 : Int32) (h : Hp) : Option ((Int32) ⊕ (Int32)) :=
  if 999 < x5 then (some (.inr (-2))) else (gd (!decide (x2 = 0)) <| gd (!decide (x4 = 0)) <| (f2_sameAbove x1 ((x5 / x2) - (x5 / x2) / 8 * 8) x3 ((x5 / x4) - (x5 / x4) / 8 * 8) h).bind fun r6 => if r6 = 0 then (some (.inl (x5 + 1))) else (some (.inr x5)))
set_option maxRecDepth 100000 in
set_option maxHeartbeats 4000000 in
theorem k_f2_firstMinute_17_s {x : Mx} {l : Launch} {post0 : Option Value → Hp → Prop} (C : Cx ΛC x l RX2 cX2_firstMinute rm_f2_firstMinute (some .int) 6 post0) {K : (Int32) ⊕ (Int32) → Prop} (x1 : Int32) (x2 : Int32) (x3 : Int32) (x4 : Int32) (x5 : Int32) (h : Hp) (hR : ∀ v : Int32, K (.inr v) → post0 (some (.int v)) h) (hL17 : ∀ (x5 : Int32), K (.inl x5) → G ΛC x 17 [(0, .ref 45), (1, .int x1), (2, .int x2), (3, .int x3), (4, .int x4), (5, .int x5)] [] h) (T : Tt (f2_firstMinute_17_s x1 x2 x3 x4 x5 h) K) : G ΛC x 17 [(0, .ref 45), (1, .int x1), (2, .int x2), (3, .int x3), (4, .int x4), (5, .int x5)] [] h := by
  refine g_iload (q := 5) C dX2_firstMinute_17 rfl ?_
  refine g_sipush (v := 999) C dX2_firstMinute_19 (by decide) ?_
  refine g_icmp_gt (tgt := 58) C dX2_firstMinute_22 (by decide) (fun c3 => ?_) (fun c3 => ?_)
  · have T := tt_t T c3
    refine g_bipush (v := (-2)) C dX2_firstMinute_58 (by decide) ?_
    exact g_iret C dX2_firstMinute_60 (hR _ (tt_some T))
  · have T := tt_f T c3
    refine g_aload_n (q := 0) C dX2_firstMinute_25 rfl rfl ?_
    refine g_iload_n (q := 1) C dX2_firstMinute_26 rfl rfl ?_
    refine g_iload (q := 5) C dX2_firstMinute_27 rfl ?_
    refine g_iload_n (q := 2) C dX2_firstMinute_29 rfl rfl ?_
    obtain ⟨g4, T⟩ := tt_gd T
    refine g_idiv C dX2_firstMinute_30 (nz_of g4) ?_
    refine g_bipush (v := 8) C dX2_firstMinute_31 (by decide) ?_
    refine g_irem C dX2_firstMinute_33 (by decide) ?_
    refine g_iload_n (q := 3) C dX2_firstMinute_34 rfl rfl ?_
    refine g_iload (q := 5) C dX2_firstMinute_35 rfl ?_
    refine g_iload (q := 4) C dX2_firstMinute_37 rfl ?_
    obtain ⟨g5, T⟩ := tt_gd T
    refine g_idiv C dX2_firstMinute_39 (nz_of g5) ?_
    refine g_bipush (v := 8) C dX2_firstMinute_40 (by decide) ?_
    refine g_irem C dX2_firstMinute_42 (by decide) ?_
    refine g_callV (p := 45) (As := [.int x1, .int ((x5 / x2) - (x5 / x2) / 8 * 8), .int x3, .int ((x5 / x4) - (x5 / x4) / 8 * 8)]) C dX2_firstMinute_43 ml_X2_35 yv_f2_sameAbove ⟨rfl, rfl⟩ ⟨Nat.le_of_ble_eq_true rfl, Nat.le_of_ble_eq_true rfl⟩ (hpC rfl rfl) rfl rfl rfl (Nat.le_of_ble_eq_true rfl) (ok_f2_sameAbove x1 ((x5 / x2) - (x5 / x2) / 8 * 8) x3 ((x5 / x4) - (x5 / x4) / 8 * 8) h (tt_bind T)) ?_
    rintro _ _ ⟨r6, rfl, rfl, T⟩
    show G ΛC x 46 [(0, .ref 45), (1, .int x1), (2, .int x2), (3, .int x3), (4, .int x4), (5, .int x5)] [.int r6] h
    refine g_if_eq (tgt := 52) C dX2_firstMinute_46 (by decide) (fun c7 => ?_) (fun c7 => ?_)
    · have T := tt_t T c7
      refine g_iinc (v := x5 + 1) (q := 5) (L' := [(5, .int (x5 + 1)), (0, .ref 45), (1, .int x1), (2, .int x2), (3, .int x3), (4, .int x4)]) C dX2_firstMinute_52 rfl (by first | rfl | exact congrArg _ (by decide)) (by decide) rfl ?_
      refine g_goto (tgt := 17) C dX2_firstMinute_55 (by decide) ?_
      refine g_sub [1, 2, 3, 4, 5, 0] rfl ?_
      exact hL17 _ (tt_some T)
    · have T := tt_f T c7
      refine g_iload (q := 5) C dX2_firstMinute_49 rfl ?_
      exact g_iret C dX2_firstMinute_51 (hR _ (tt_some T))

noncomputable def f2_firstMinute_17 (x1 : Int32) (x2 : Int32) (x3 : Int32) (x4 : Int32) (x5 : Int32) (h : Hp) : Option (Int32) := lp (fun z : Int32 => f2_firstMinute_17_s x1 x2 x3 x4 z h) x5
theorem k_f2_firstMinute_17 {x : Mx} {l : Launch} {post0 : Option Value → Hp → Prop} (C : Cx ΛC x l RX2 cX2_firstMinute rm_f2_firstMinute (some .int) 6 post0) {K : Int32 → Prop} (x1 : Int32) (x2 : Int32) (x3 : Int32) (x4 : Int32) (x5 : Int32) (h : Hp) (hR : ∀ v : Int32, K v → post0 (some (.int v)) h) (T : Tt (f2_firstMinute_17 x1 x2 x3 x4 x5 h) K) : G ΛC x 17 [(0, .ref 45), (1, .int x1), (2, .int x2), (3, .int x3), (4, .int x4), (5, .int x5)] [] h :=
  lp_ind (f := fun z : Int32 => f2_firstMinute_17_s x1 x2 x3 x4 z h) (P := fun z : Int32 => G ΛC x 17 [(0, .ref 45), (1, .int x1), (2, .int x2), (3, .int x3), (4, .int x4), (5, .int z)] [] h) (K := K) (fun z T => k_f2_firstMinute_17_s C (K := KS (fun z : Int32 => G ΛC x 17 [(0, .ref 45), (1, .int x1), (2, .int x2), (3, .int x3), (4, .int x4), (5, .int z)] [] h) K) x1 x2 x3 x4 z h hR (fun _ q => q) T) x5 T
noncomputable def f2_firstMinute (x1 : Int32) (x2 : Int32) (x3 : Int32) (x4 : Int32) (h : Hp) : Option (Int32) :=
  if x2 < 1 then (some (-2)) else (if 1 ≤ x4 then (f2_firstMinute_17 x1 x2 x3 x4 0 h) else (some (-2)))
set_option maxRecDepth 100000 in
set_option maxHeartbeats 4000000 in
theorem k_f2_firstMinute {x : Mx} {l : Launch} {post0 : Option Value → Hp → Prop} (C : Cx ΛC x l RX2 cX2_firstMinute rm_f2_firstMinute (some .int) 6 post0) {K : Int32 → Prop} (x1 : Int32) (x2 : Int32) (x3 : Int32) (x4 : Int32) (h : Hp) (hR : ∀ v : Int32, K v → post0 (some (.int v)) h) (T : Tt (f2_firstMinute x1 x2 x3 x4 h) K) : G ΛC x 0 [(0, .ref 45), (1, .int x1), (2, .int x2), (3, .int x3), (4, .int x4)] [] h := by
  refine g_iload_n (q := 2) C dX2_firstMinute_0 rfl rfl ?_
  refine g_iconst (v := 1) C dX2_firstMinute_1 (by decide) ?_
  refine g_icmp_lt (tgt := 11) C dX2_firstMinute_2 (by decide) (fun c1 => ?_) (fun c1 => ?_)
  · have T := tt_t T c1
    refine g_bipush (v := (-2)) C dX2_firstMinute_11 (by decide) ?_
    exact g_iret C dX2_firstMinute_13 (hR _ (tt_some T))
  · have T := tt_f T c1
    refine g_iload (q := 4) C dX2_firstMinute_5 rfl ?_
    refine g_iconst (v := 1) C dX2_firstMinute_7 (by decide) ?_
    refine g_icmp_ge (tgt := 14) C dX2_firstMinute_8 (by decide) (fun c2 => ?_) (fun c2 => ?_)
    · have T := tt_t T c2
      refine g_iconst (v := 0) C dX2_firstMinute_14 (by decide) ?_
      refine g_istore (L' := [(5, .int 0), (0, .ref 45), (1, .int x1), (2, .int x2), (3, .int x3), (4, .int x4)]) C dX2_firstMinute_15 (by decide) rfl ?_
      refine g_sub [1, 2, 3, 4, 5, 0] rfl ?_
      exact k_f2_firstMinute_17 C x1 x2 x3 x4 0 h hR T
    · have T := tt_f T c2
      refine g_bipush (v := (-2)) C dX2_firstMinute_11 (by decide) ?_
      exact g_iret C dX2_firstMinute_13 (hR _ (tt_some T))

theorem ok_f2_firstMinute {l : Launch} {K : Int32 → Prop} (x1 : Int32) (x2 : Int32) (x3 : Int32) (x4 : Int32) (h : Hp) (T : Tt (f2_firstMinute x1 x2 x3 x4 h) K) : Ok ΛC l yX2_firstMinute cX2_firstMinute 6 (some .int) rm_f2_firstMinute [.ref 45, .int x1, .int x2, .int x3, .int x4] h (PIs K h) :=
  Ok.of RX2 rfl (by decide) ⟨rfl, rfl⟩ (Nat.le_of_ble_eq_true rfl) (fun x C => k_f2_firstMinute C x1 x2 x3 x4 h (fun v q => ⟨v, rfl, rfl, q⟩) T)

abbrev rm_f2_mostSame : Room := { frames := 1, cells := 0, slots := 0, locals := 22 }
noncomputable def f2_mostSame_78 (x1 : Int32) (x2 : Int32) (x3 : Int32) (x4 : Int32) (h : Hp) : Option ((Int32 × Int32) ⊕ (Int32)) :=
  some (.inl (x3, x4 + 1))
set_option maxRecDepth 100000 in
set_option maxHeartbeats 4000000 in
theorem k_f2_mostSame_78 {x : Mx} {l : Launch} {post0 : Option Value → Hp → Prop} (C : Cx ΛC x l RX2 cX2_mostSame rm_f2_mostSame (some .int) 7 post0) {K : (Int32 × Int32) ⊕ (Int32) → Prop} (x1 : Int32) (x2 : Int32) (x3 : Int32) (x4 : Int32) (h : Hp) (hR : ∀ v : Int32, K (.inr v) → post0 (some (.int v)) h) (hL5 : ∀ (x3 : Int32) (x4 : Int32), K (.inl (x3, x4)) → G ΛC x 5 [(0, .ref 45), (1, .int x1), (2, .int x2), (3, .int x3), (4, .int x4)] [] h) (T : Tt (f2_mostSame_78 x1 x2 x3 x4 h) K) : G ΛC x 78 [(0, .ref 45), (1, .int x1), (2, .int x2), (3, .int x3), (4, .int x4)] [] h := by
  refine g_iinc (v := x4 + 1) (q := 4) (L' := [(4, .int (x4 + 1)), (0, .ref 45), (1, .int x1), (2, .int x2), (3, .int x3)]) C dX2_mostSame_78 rfl (by first | rfl | exact congrArg _ (by decide)) (by decide) rfl ?_
  refine g_goto (tgt := 5) C dX2_mostSame_81 (by decide) ?_
  refine g_sub [1, 2, 3, 4, 0] rfl ?_
  exact hL5 _ _ (tt_some T)

noncomputable def f2_mostSame_61 (x1 : Int32) (x2 : Int32) (x3 : Int32) (x4 : Int32) (x5 : Int32) (h : Hp) : Option ((Int32 × Int32) ⊕ (Int32)) :=
  if (x1 >>> (x4 &&& 31)) &&& 1 = 1 then (lt ((if x3 < x5 then x5 else x3 : Int32)) fun v4 => f2_mostSame_78 x1 x2 v4 x4 h) else (f2_mostSame_78 x1 x2 x3 x4 h)
set_option maxRecDepth 100000 in
set_option maxHeartbeats 4000000 in
theorem k_f2_mostSame_61 {x : Mx} {l : Launch} {post0 : Option Value → Hp → Prop} (C : Cx ΛC x l RX2 cX2_mostSame rm_f2_mostSame (some .int) 7 post0) {K : (Int32 × Int32) ⊕ (Int32) → Prop} (x1 : Int32) (x2 : Int32) (x3 : Int32) (x4 : Int32) (x5 : Int32) (h : Hp) (hR : ∀ v : Int32, K (.inr v) → post0 (some (.int v)) h) (hL5 : ∀ (x3 : Int32) (x4 : Int32), K (.inl (x3, x4)) → G ΛC x 5 [(0, .ref 45), (1, .int x1), (2, .int x2), (3, .int x3), (4, .int x4)] [] h) (T : Tt (f2_mostSame_61 x1 x2 x3 x4 x5 h) K) : G ΛC x 61 [(0, .ref 45), (1, .int x1), (2, .int x2), (3, .int x3), (4, .int x4), (5, .int x5)] [] h := by
  refine g_iload_n (q := 1) C dX2_mostSame_61 rfl rfl ?_
  refine g_iload (q := 4) C dX2_mostSame_62 rfl ?_
  refine g_ishr C dX2_mostSame_64 ?_
  refine g_iconst (v := 1) C dX2_mostSame_65 (by decide) ?_
  refine g_iand C dX2_mostSame_66 ?_
  refine g_iconst (v := 1) C dX2_mostSame_67 (by decide) ?_
  refine g_icmp_ne (tgt := 78) C dX2_mostSame_68 (by decide) (fun c3 => ?_) (fun c3 => ?_)
  · have T := tt_f T c3
    refine g_sub [0, 1, 2, 3, 4] rfl ?_
    exact k_f2_mostSame_78 C x1 x2 x3 x4 h hR hL5 T
  · have T := tt_t T c3
    refine g_iload_n (q := 3) C dX2_mostSame_71 rfl rfl ?_
    refine g_iload (q := 5) C dX2_mostSame_72 rfl ?_
    refine g_mmax C dX2_mostSame_74 mm_X2_39 ms_max mi_math mc_max (Nat.le_of_ble_eq_true rfl) (Nat.le_of_ble_eq_true rfl) ?_
    obtain ⟨v4, ev4, T⟩ := tt_lt T
    refine g_nameI ev4 ?_
    refine g_istore_n (L' := [(3, .int v4), (0, .ref 45), (1, .int x1), (2, .int x2), (4, .int x4), (5, .int x5)]) C dX2_mostSame_77 rfl (by decide) rfl ?_
    refine g_sub [1, 2, 3, 0, 4] rfl ?_
    exact k_f2_mostSame_78 C x1 x2 v4 x4 h hR hL5 T

noncomputable def f2_mostSame_55 (x1 : Int32) (x2 : Int32) (x3 : Int32) (x4 : Int32) (x5 : Int32) (x6 : Int32) (h : Hp) : Option ((Int32 × Int32) ⊕ ((Int32 × Int32) ⊕ (Int32))) :=
  some (.inl (x5, x6 + 1))
set_option maxRecDepth 100000 in
set_option maxHeartbeats 4000000 in
theorem k_f2_mostSame_55 {x : Mx} {l : Launch} {post0 : Option Value → Hp → Prop} (C : Cx ΛC x l RX2 cX2_mostSame rm_f2_mostSame (some .int) 7 post0) {K : (Int32 × Int32) ⊕ ((Int32 × Int32) ⊕ (Int32)) → Prop} (x1 : Int32) (x2 : Int32) (x3 : Int32) (x4 : Int32) (x5 : Int32) (x6 : Int32) (h : Hp) (hR : ∀ v : Int32, K (.inr (.inr v)) → post0 (some (.int v)) h) (hL5 : ∀ (x3 : Int32) (x4 : Int32), K (.inr (.inl (x3, x4))) → G ΛC x 5 [(0, .ref 45), (1, .int x1), (2, .int x2), (3, .int x3), (4, .int x4)] [] h) (hL18 : ∀ (x5 : Int32) (x6 : Int32), K (.inl (x5, x6)) → G ΛC x 18 [(0, .ref 45), (1, .int x1), (2, .int x2), (3, .int x3), (4, .int x4), (5, .int x5), (6, .int x6)] [] h) (T : Tt (f2_mostSame_55 x1 x2 x3 x4 x5 x6 h) K) : G ΛC x 55 [(0, .ref 45), (1, .int x1), (2, .int x2), (3, .int x3), (4, .int x4), (5, .int x5), (6, .int x6)] [] h := by
  refine g_iinc (v := x6 + 1) (q := 6) (L' := [(6, .int (x6 + 1)), (0, .ref 45), (1, .int x1), (2, .int x2), (3, .int x3), (4, .int x4), (5, .int x5)]) C dX2_mostSame_55 rfl (by first | rfl | exact congrArg _ (by decide)) (by decide) rfl ?_
  refine g_goto (tgt := 18) C dX2_mostSame_58 (by decide) ?_
  refine g_sub [1, 2, 3, 4, 5, 6, 0] rfl ?_
  exact hL18 _ _ (tt_some T)

noncomputable def f2_mostSame_18_s (x1 : Int32) (x2 : Int32) (x3 : Int32) (x4 : Int32) (x5 : Int32) (x6 : Int32) (h : Hp) : Option ((Int32 × Int32) ⊕ ((Int32 × Int32) ⊕ (Int32))) :=
  if 6 ≤ x6 then ((f2_mostSame_61 x1 x2 x3 x4 x5 h).map (fun z => .inr (z))) else (if (x1 >>> (x6 &&& 31)) &&& 1 = 1 then ((f2_at x4 x2 h).bind fun r6 => (f2_at x6 x2 h).bind fun r7 => if r6 = r7 then (f2_mostSame_55 x1 x2 x3 x4 (x5 + 1) x6 h) else (f2_mostSame_55 x1 x2 x3 x4 x5 x6 h)) else (f2_mostSame_55 x1 x2 x3 x4 x5 x6 h))
set_option maxRecDepth 100000 in
set_option maxHeartbeats 4000000 in
theorem k_f2_mostSame_18_s {x : Mx} {l : Launch} {post0 : Option Value → Hp → Prop} (C : Cx ΛC x l RX2 cX2_mostSame rm_f2_mostSame (some .int) 7 post0) {K : (Int32 × Int32) ⊕ ((Int32 × Int32) ⊕ (Int32)) → Prop} (x1 : Int32) (x2 : Int32) (x3 : Int32) (x4 : Int32) (x5 : Int32) (x6 : Int32) (h : Hp) (hR : ∀ v : Int32, K (.inr (.inr v)) → post0 (some (.int v)) h) (hL5 : ∀ (x3 : Int32) (x4 : Int32), K (.inr (.inl (x3, x4))) → G ΛC x 5 [(0, .ref 45), (1, .int x1), (2, .int x2), (3, .int x3), (4, .int x4)] [] h) (hL18 : ∀ (x5 : Int32) (x6 : Int32), K (.inl (x5, x6)) → G ΛC x 18 [(0, .ref 45), (1, .int x1), (2, .int x2), (3, .int x3), (4, .int x4), (5, .int x5), (6, .int x6)] [] h) (T : Tt (f2_mostSame_18_s x1 x2 x3 x4 x5 x6 h) K) : G ΛC x 18 [(0, .ref 45), (1, .int x1), (2, .int x2), (3, .int x3), (4, .int x4), (5, .int x5), (6, .int x6)] [] h := by
  refine g_iload (q := 6) C dX2_mostSame_18 rfl ?_
  refine g_bipush (v := 6) C dX2_mostSame_20 (by decide) ?_
  refine g_icmp_ge (tgt := 61) C dX2_mostSame_22 (by decide) (fun c2 => ?_) (fun c2 => ?_)
  · have T := tt_t T c2
    refine g_sub [0, 1, 2, 3, 4, 5] rfl ?_
    exact k_f2_mostSame_61 C x1 x2 x3 x4 x5 h hR hL5 (tt_map T)
  · have T := tt_f T c2
    refine g_iload_n (q := 1) C dX2_mostSame_25 rfl rfl ?_
    refine g_iload (q := 6) C dX2_mostSame_26 rfl ?_
    refine g_ishr C dX2_mostSame_28 ?_
    refine g_iconst (v := 1) C dX2_mostSame_29 (by decide) ?_
    refine g_iand C dX2_mostSame_30 ?_
    refine g_iconst (v := 1) C dX2_mostSame_31 (by decide) ?_
    refine g_icmp_ne (tgt := 55) C dX2_mostSame_32 (by decide) (fun c5 => ?_) (fun c5 => ?_)
    · have T := tt_f T c5
      exact k_f2_mostSame_55 C x1 x2 x3 x4 x5 x6 h hR hL5 hL18 T
    · have T := tt_t T c5
      refine g_aload_n (q := 0) C dX2_mostSame_35 rfl rfl ?_
      refine g_iload (q := 4) C dX2_mostSame_36 rfl ?_
      refine g_iload_n (q := 2) C dX2_mostSame_38 rfl rfl ?_
      refine g_callV (p := 45) (As := [.int x4, .int x2]) C dX2_mostSame_39 ml_X2_31 yv_f2_at ⟨rfl, rfl⟩ ⟨Nat.le_of_ble_eq_true rfl, Nat.le_of_ble_eq_true rfl⟩ (hpC rfl rfl) rfl rfl rfl (Nat.le_of_ble_eq_true rfl) (ok_f2_at x4 x2 h (tt_bind T)) ?_
      rintro _ _ ⟨r6, rfl, rfl, T⟩
      show G ΛC x 42 [(0, .ref 45), (1, .int x1), (2, .int x2), (3, .int x3), (4, .int x4), (5, .int x5), (6, .int x6)] [.int r6] h
      refine g_aload_n (q := 0) C dX2_mostSame_42 rfl rfl ?_
      refine g_iload (q := 6) C dX2_mostSame_43 rfl ?_
      refine g_iload_n (q := 2) C dX2_mostSame_45 rfl rfl ?_
      refine g_callV (p := 45) (As := [.int x6, .int x2]) C dX2_mostSame_46 ml_X2_31 yv_f2_at ⟨rfl, rfl⟩ ⟨Nat.le_of_ble_eq_true rfl, Nat.le_of_ble_eq_true rfl⟩ (hpC rfl rfl) rfl rfl rfl (Nat.le_of_ble_eq_true rfl) (ok_f2_at x6 x2 h (tt_bind T)) ?_
      rintro _ _ ⟨r7, rfl, rfl, T⟩
      show G ΛC x 49 [(0, .ref 45), (1, .int x1), (2, .int x2), (3, .int x3), (4, .int x4), (5, .int x5), (6, .int x6)] [.int r7, .int r6] h
      refine g_icmp_ne (tgt := 55) C dX2_mostSame_49 (by decide) (fun c8 => ?_) (fun c8 => ?_)
      · have T := tt_f T c8
        exact k_f2_mostSame_55 C x1 x2 x3 x4 x5 x6 h hR hL5 hL18 T
      · have T := tt_t T c8
        refine g_iinc (v := x5 + 1) (q := 5) (L' := [(5, .int (x5 + 1)), (0, .ref 45), (1, .int x1), (2, .int x2), (3, .int x3), (4, .int x4), (6, .int x6)]) C dX2_mostSame_52 rfl (by first | rfl | exact congrArg _ (by decide)) (by decide) rfl ?_
        refine g_sub [1, 2, 3, 4, 5, 0, 6] rfl ?_
        exact k_f2_mostSame_55 C x1 x2 x3 x4 (x5 + 1) x6 h hR hL5 hL18 T

noncomputable def f2_mostSame_18 (x1 : Int32) (x2 : Int32) (x3 : Int32) (x4 : Int32) (x5 : Int32) (x6 : Int32) (h : Hp) : Option ((Int32 × Int32) ⊕ (Int32)) := lp (fun z : Int32 × Int32 => f2_mostSame_18_s x1 x2 x3 x4 z.1 z.2 h) (x5, x6)
theorem k_f2_mostSame_18 {x : Mx} {l : Launch} {post0 : Option Value → Hp → Prop} (C : Cx ΛC x l RX2 cX2_mostSame rm_f2_mostSame (some .int) 7 post0) {K : (Int32 × Int32) ⊕ (Int32) → Prop} (x1 : Int32) (x2 : Int32) (x3 : Int32) (x4 : Int32) (x5 : Int32) (x6 : Int32) (h : Hp) (hR : ∀ v : Int32, K (.inr v) → post0 (some (.int v)) h) (hL5 : ∀ (x3 : Int32) (x4 : Int32), K (.inl (x3, x4)) → G ΛC x 5 [(0, .ref 45), (1, .int x1), (2, .int x2), (3, .int x3), (4, .int x4)] [] h) (T : Tt (f2_mostSame_18 x1 x2 x3 x4 x5 x6 h) K) : G ΛC x 18 [(0, .ref 45), (1, .int x1), (2, .int x2), (3, .int x3), (4, .int x4), (5, .int x5), (6, .int x6)] [] h :=
  lp_ind (f := fun z : Int32 × Int32 => f2_mostSame_18_s x1 x2 x3 x4 z.1 z.2 h) (P := fun z : Int32 × Int32 => G ΛC x 18 [(0, .ref 45), (1, .int x1), (2, .int x2), (3, .int x3), (4, .int x4), (5, .int z.1), (6, .int z.2)] [] h) (K := K) (fun z T => k_f2_mostSame_18_s C (K := KS (fun z : Int32 × Int32 => G ΛC x 18 [(0, .ref 45), (1, .int x1), (2, .int x2), (3, .int x3), (4, .int x4), (5, .int z.1), (6, .int z.2)] [] h) K) x1 x2 x3 x4 z.1 z.2 h hR hL5 (fun _ _ q => q) T) (x5, x6) T
noncomputable def f2_mostSame_5_s (x1 : Int32) (x2 : Int32) (x3 : Int32) (x4 : Int32) (h : Hp) : Option ((Int32 × Int32) ⊕ (Int32)) :=
  if 6 ≤ x4 then (some (.inr x3)) else (f2_mostSame_18 x1 x2 x3 x4 0 0 h)
set_option maxRecDepth 100000 in
set_option maxHeartbeats 4000000 in
theorem k_f2_mostSame_5_s {x : Mx} {l : Launch} {post0 : Option Value → Hp → Prop} (C : Cx ΛC x l RX2 cX2_mostSame rm_f2_mostSame (some .int) 7 post0) {K : (Int32 × Int32) ⊕ (Int32) → Prop} (x1 : Int32) (x2 : Int32) (x3 : Int32) (x4 : Int32) (h : Hp) (hR : ∀ v : Int32, K (.inr v) → post0 (some (.int v)) h) (hL5 : ∀ (x3 : Int32) (x4 : Int32), K (.inl (x3, x4)) → G ΛC x 5 [(0, .ref 45), (1, .int x1), (2, .int x2), (3, .int x3), (4, .int x4)] [] h) (T : Tt (f2_mostSame_5_s x1 x2 x3 x4 h) K) : G ΛC x 5 [(0, .ref 45), (1, .int x1), (2, .int x2), (3, .int x3), (4, .int x4)] [] h := by
  refine g_iload (q := 4) C dX2_mostSame_5 rfl ?_
  refine g_bipush (v := 6) C dX2_mostSame_7 (by decide) ?_
  refine g_icmp_ge (tgt := 84) C dX2_mostSame_9 (by decide) (fun c1 => ?_) (fun c1 => ?_)
  · have T := tt_t T c1
    refine g_iload_n (q := 3) C dX2_mostSame_84 rfl rfl ?_
    exact g_iret C dX2_mostSame_85 (hR _ (tt_some T))
  · have T := tt_f T c1
    refine g_iconst (v := 0) C dX2_mostSame_12 (by decide) ?_
    refine g_istore (L' := [(5, .int 0), (0, .ref 45), (1, .int x1), (2, .int x2), (3, .int x3), (4, .int x4)]) C dX2_mostSame_13 (by decide) rfl ?_
    refine g_iconst (v := 0) C dX2_mostSame_15 (by decide) ?_
    refine g_istore (L' := [(6, .int 0), (5, .int 0), (0, .ref 45), (1, .int x1), (2, .int x2), (3, .int x3), (4, .int x4)]) C dX2_mostSame_16 (by decide) rfl ?_
    refine g_sub [2, 3, 4, 5, 6, 1, 0] rfl ?_
    exact k_f2_mostSame_18 C x1 x2 x3 x4 0 0 h hR hL5 T

noncomputable def f2_mostSame_5 (x1 : Int32) (x2 : Int32) (x3 : Int32) (x4 : Int32) (h : Hp) : Option (Int32) := lp (fun z : Int32 × Int32 => f2_mostSame_5_s x1 x2 z.1 z.2 h) (x3, x4)
theorem k_f2_mostSame_5 {x : Mx} {l : Launch} {post0 : Option Value → Hp → Prop} (C : Cx ΛC x l RX2 cX2_mostSame rm_f2_mostSame (some .int) 7 post0) {K : Int32 → Prop} (x1 : Int32) (x2 : Int32) (x3 : Int32) (x4 : Int32) (h : Hp) (hR : ∀ v : Int32, K v → post0 (some (.int v)) h) (T : Tt (f2_mostSame_5 x1 x2 x3 x4 h) K) : G ΛC x 5 [(0, .ref 45), (1, .int x1), (2, .int x2), (3, .int x3), (4, .int x4)] [] h :=
  lp_ind (f := fun z : Int32 × Int32 => f2_mostSame_5_s x1 x2 z.1 z.2 h) (P := fun z : Int32 × Int32 => G ΛC x 5 [(0, .ref 45), (1, .int x1), (2, .int x2), (3, .int z.1), (4, .int z.2)] [] h) (K := K) (fun z T => k_f2_mostSame_5_s C (K := KS (fun z : Int32 × Int32 => G ΛC x 5 [(0, .ref 45), (1, .int x1), (2, .int x2), (3, .int z.1), (4, .int z.2)] [] h) K) x1 x2 z.1 z.2 h hR (fun _ _ q => q) T) (x3, x4) T
noncomputable def f2_mostSame (x1 : Int32) (x2 : Int32) (h : Hp) : Option (Int32) :=
  f2_mostSame_5 x1 x2 0 0 h
set_option maxRecDepth 100000 in
set_option maxHeartbeats 4000000 in
theorem k_f2_mostSame {x : Mx} {l : Launch} {post0 : Option Value → Hp → Prop} (C : Cx ΛC x l RX2 cX2_mostSame rm_f2_mostSame (some .int) 7 post0) {K : Int32 → Prop} (x1 : Int32) (x2 : Int32) (h : Hp) (hR : ∀ v : Int32, K v → post0 (some (.int v)) h) (T : Tt (f2_mostSame x1 x2 h) K) : G ΛC x 0 [(0, .ref 45), (1, .int x1), (2, .int x2)] [] h := by
  refine g_iconst (v := 0) C dX2_mostSame_0 (by decide) ?_
  refine g_istore_n (L' := [(3, .int 0), (0, .ref 45), (1, .int x1), (2, .int x2)]) C dX2_mostSame_1 rfl (by decide) rfl ?_
  refine g_iconst (v := 0) C dX2_mostSame_2 (by decide) ?_
  refine g_istore (L' := [(4, .int 0), (3, .int 0), (0, .ref 45), (1, .int x1), (2, .int x2)]) C dX2_mostSame_3 (by decide) rfl ?_
  refine g_sub [2, 3, 4, 1, 0] rfl ?_
  exact k_f2_mostSame_5 C x1 x2 0 0 h hR T

theorem ok_f2_mostSame {l : Launch} {K : Int32 → Prop} (x1 : Int32) (x2 : Int32) (h : Hp) (T : Tt (f2_mostSame x1 x2 h) K) : Ok ΛC l yX2_mostSame cX2_mostSame 7 (some .int) rm_f2_mostSame [.ref 45, .int x1, .int x2] h (PIs K h) :=
  Ok.of RX2 rfl (by decide) ⟨rfl, rfl⟩ (Nat.le_of_ble_eq_true rfl) (fun x C => k_f2_mostSame C x1 x2 h (fun v q => ⟨v, rfl, rfl, q⟩) T)

abbrev rm_f6_longestNext : Room := { frames := 0, cells := 0, slots := 0, locals := 0 }
noncomputable def f6_longestNext_54 (x1 : Int32) (x2 : Int32) (x3 : Int32) (x4 : Int32) (h : Hp) : Option ((Int32 × Int32) ⊕ (Int32)) :=
  some (.inl (x3, x4 + (-1)))
set_option maxRecDepth 100000 in
set_option maxHeartbeats 4000000 in
theorem k_f6_longestNext_54 {x : Mx} {l : Launch} {post0 : Option Value → Hp → Prop} (C : Cx ΛC x l RX6 cX6_longestNext rm_f6_longestNext (some .int) 5 post0) {K : (Int32 × Int32) ⊕ (Int32) → Prop} (x1 : Int32) (x2 : Int32) (x3 : Int32) (x4 : Int32) (h : Hp) (hR : ∀ v : Int32, K (.inr v) → post0 (some (.int v)) h) (hL5 : ∀ (x3 : Int32) (x4 : Int32), K (.inl (x3, x4)) → G ΛC x 5 [(0, .ref 47), (1, .int x1), (2, .int x2), (3, .int x3), (4, .int x4)] [] h) (T : Tt (f6_longestNext_54 x1 x2 x3 x4 h) K) : G ΛC x 54 [(0, .ref 47), (1, .int x1), (2, .int x2), (3, .int x3), (4, .int x4)] [] h := by
  refine g_iinc (v := x4 + (-1)) (q := 4) (L' := [(4, .int (x4 + (-1))), (0, .ref 47), (1, .int x1), (2, .int x2), (3, .int x3)]) C dX6_longestNext_54 rfl (by first | rfl | exact congrArg _ (by decide)) (by decide) rfl ?_
  refine g_goto (tgt := 5) C dX6_longestNext_57 (by decide) ?_
  refine g_sub [1, 2, 3, 4, 0] rfl ?_
  exact hL5 _ _ (tt_some T)

noncomputable def f6_longestNext_51 (x1 : Int32) (x2 : Int32) (x4 : Int32) (h : Hp) : Option ((Int32 × Int32) ⊕ (Int32)) :=
  f6_longestNext_54 x1 x2 x4 x4 h
set_option maxRecDepth 100000 in
set_option maxHeartbeats 4000000 in
theorem k_f6_longestNext_51 {x : Mx} {l : Launch} {post0 : Option Value → Hp → Prop} (C : Cx ΛC x l RX6 cX6_longestNext rm_f6_longestNext (some .int) 5 post0) {K : (Int32 × Int32) ⊕ (Int32) → Prop} (x1 : Int32) (x2 : Int32) (x4 : Int32) (h : Hp) (hR : ∀ v : Int32, K (.inr v) → post0 (some (.int v)) h) (hL5 : ∀ (x3 : Int32) (x4 : Int32), K (.inl (x3, x4)) → G ΛC x 5 [(0, .ref 47), (1, .int x1), (2, .int x2), (3, .int x3), (4, .int x4)] [] h) (T : Tt (f6_longestNext_51 x1 x2 x4 h) K) : G ΛC x 51 [(0, .ref 47), (1, .int x1), (2, .int x2), (4, .int x4)] [] h := by
  refine g_iload (q := 3) C dX6_longestNext_51 rfl ?_
  refine g_istore_n (L' := [(3, .int x4), (0, .ref 47), (1, .int x1), (2, .int x2), (4, .int x4)]) C dX6_longestNext_53 rfl (by decide) rfl ?_
  refine g_sub [1, 2, 3, 0, 4] rfl ?_
  exact k_f6_longestNext_54 C x1 x2 x4 x4 h hR hL5 T

noncomputable def f6_longestNext_5_s (x1 : Int32) (x2 : Int32) (x3 : Int32) (x4 : Int32) (h : Hp) : Option ((Int32 × Int32) ⊕ (Int32)) :=
  if x4 < 0 then (some (.inr x3)) else (if (x1 >>> (x4 &&& 31)) &&& 1 = 1 then (if x3 = (-1) then (f6_longestNext_51 x1 x2 x4 h) else (gd (inb ((x2 * 6) + x4) 384) <| gd (inb ((x2 * 6) + x3) 384) <| if h.1 48 (ix ((x2 * 6) + x4)) < h.1 48 (ix ((x2 * 6) + x3)) then (f6_longestNext_54 x1 x2 x3 x4 h) else (f6_longestNext_51 x1 x2 x4 h))) else (f6_longestNext_54 x1 x2 x3 x4 h))
set_option maxRecDepth 100000 in
set_option maxHeartbeats 4000000 in
theorem k_f6_longestNext_5_s {x : Mx} {l : Launch} {post0 : Option Value → Hp → Prop} (C : Cx ΛC x l RX6 cX6_longestNext rm_f6_longestNext (some .int) 5 post0) {K : (Int32 × Int32) ⊕ (Int32) → Prop} (x1 : Int32) (x2 : Int32) (x3 : Int32) (x4 : Int32) (h : Hp) (hR : ∀ v : Int32, K (.inr v) → post0 (some (.int v)) h) (hL5 : ∀ (x3 : Int32) (x4 : Int32), K (.inl (x3, x4)) → G ΛC x 5 [(0, .ref 47), (1, .int x1), (2, .int x2), (3, .int x3), (4, .int x4)] [] h) (T : Tt (f6_longestNext_5_s x1 x2 x3 x4 h) K) : G ΛC x 5 [(0, .ref 47), (1, .int x1), (2, .int x2), (3, .int x3), (4, .int x4)] [] h := by
  refine g_iload (q := 4) C dX6_longestNext_5 rfl ?_
  refine g_if_lt (tgt := 60) C dX6_longestNext_7 (by decide) (fun c1 => ?_) (fun c1 => ?_)
  · have T := tt_t T c1
    refine g_iload_n (q := 3) C dX6_longestNext_60 rfl rfl ?_
    exact g_iret C dX6_longestNext_61 (hR _ (tt_some T))
  · have T := tt_f T c1
    refine g_iload_n (q := 1) C dX6_longestNext_10 rfl rfl ?_
    refine g_iload (q := 4) C dX6_longestNext_11 rfl ?_
    refine g_ishr C dX6_longestNext_13 ?_
    refine g_iconst (v := 1) C dX6_longestNext_14 (by decide) ?_
    refine g_iand C dX6_longestNext_15 ?_
    refine g_iconst (v := 1) C dX6_longestNext_16 (by decide) ?_
    refine g_icmp_ne (tgt := 54) C dX6_longestNext_17 (by decide) (fun c2 => ?_) (fun c2 => ?_)
    · have T := tt_f T c2
      exact k_f6_longestNext_54 C x1 x2 x3 x4 h hR hL5 T
    · have T := tt_t T c2
      refine g_iload_n (q := 3) C dX6_longestNext_20 rfl rfl ?_
      refine g_iconst (v := (-1)) C dX6_longestNext_21 (by decide) ?_
      refine g_icmp_eq (tgt := 51) C dX6_longestNext_22 (by decide) (fun c3 => ?_) (fun c3 => ?_)
      · have T := tt_t T c3
        refine g_sub [0, 1, 2, 4] rfl ?_
        exact k_f6_longestNext_51 C x1 x2 x4 h hR hL5 T
      · have T := tt_f T c3
        refine g_aload_n (q := 0) C dX6_longestNext_25 rfl rfl ?_
        refine g_getF (k := 0) (q := 48) C dX6_longestNext_26 (hpC rfl rfl) rfl fl_X6_9 rfl rfl ?_
        refine g_iload_n (q := 2) C dX6_longestNext_29 rfl rfl ?_
        refine g_bipush (v := 6) C dX6_longestNext_30 (by decide) ?_
        refine g_imul C dX6_longestNext_32 ?_
        refine g_iload (q := 4) C dX6_longestNext_33 rfl ?_
        refine g_iadd C dX6_longestNext_35 ?_
        obtain ⟨g4, T⟩ := tt_gd T
        refine g_iald C dX6_longestNext_36 (hpC rfl rfl) rfl (inb_of rfl g4) ?_
        refine g_aload_n (q := 0) C dX6_longestNext_37 rfl rfl ?_
        refine g_getF (k := 0) (q := 48) C dX6_longestNext_38 (hpC rfl rfl) rfl fl_X6_9 rfl rfl ?_
        refine g_iload_n (q := 2) C dX6_longestNext_41 rfl rfl ?_
        refine g_bipush (v := 6) C dX6_longestNext_42 (by decide) ?_
        refine g_imul C dX6_longestNext_44 ?_
        refine g_iload_n (q := 3) C dX6_longestNext_45 rfl rfl ?_
        refine g_iadd C dX6_longestNext_46 ?_
        obtain ⟨g5, T⟩ := tt_gd T
        refine g_iald C dX6_longestNext_47 (hpC rfl rfl) rfl (inb_of rfl g5) ?_
        refine g_icmp_lt (tgt := 54) C dX6_longestNext_48 (by decide) (fun c6 => ?_) (fun c6 => ?_)
        · have T := tt_t T c6
          exact k_f6_longestNext_54 C x1 x2 x3 x4 h hR hL5 T
        · have T := tt_f T c6
          refine g_sub [0, 1, 2, 4] rfl ?_
          exact k_f6_longestNext_51 C x1 x2 x4 h hR hL5 T

noncomputable def f6_longestNext_5 (x1 : Int32) (x2 : Int32) (x3 : Int32) (x4 : Int32) (h : Hp) : Option (Int32) := lp (fun z : Int32 × Int32 => f6_longestNext_5_s x1 x2 z.1 z.2 h) (x3, x4)
theorem k_f6_longestNext_5 {x : Mx} {l : Launch} {post0 : Option Value → Hp → Prop} (C : Cx ΛC x l RX6 cX6_longestNext rm_f6_longestNext (some .int) 5 post0) {K : Int32 → Prop} (x1 : Int32) (x2 : Int32) (x3 : Int32) (x4 : Int32) (h : Hp) (hR : ∀ v : Int32, K v → post0 (some (.int v)) h) (T : Tt (f6_longestNext_5 x1 x2 x3 x4 h) K) : G ΛC x 5 [(0, .ref 47), (1, .int x1), (2, .int x2), (3, .int x3), (4, .int x4)] [] h :=
  lp_ind (f := fun z : Int32 × Int32 => f6_longestNext_5_s x1 x2 z.1 z.2 h) (P := fun z : Int32 × Int32 => G ΛC x 5 [(0, .ref 47), (1, .int x1), (2, .int x2), (3, .int z.1), (4, .int z.2)] [] h) (K := K) (fun z T => k_f6_longestNext_5_s C (K := KS (fun z : Int32 × Int32 => G ΛC x 5 [(0, .ref 47), (1, .int x1), (2, .int x2), (3, .int z.1), (4, .int z.2)] [] h) K) x1 x2 z.1 z.2 h hR (fun _ _ q => q) T) (x3, x4) T
noncomputable def f6_longestNext (x1 : Int32) (x2 : Int32) (h : Hp) : Option (Int32) :=
  f6_longestNext_5 x1 x2 (-1) 5 h
set_option maxRecDepth 100000 in
set_option maxHeartbeats 4000000 in
theorem k_f6_longestNext {x : Mx} {l : Launch} {post0 : Option Value → Hp → Prop} (C : Cx ΛC x l RX6 cX6_longestNext rm_f6_longestNext (some .int) 5 post0) {K : Int32 → Prop} (x1 : Int32) (x2 : Int32) (h : Hp) (hR : ∀ v : Int32, K v → post0 (some (.int v)) h) (T : Tt (f6_longestNext x1 x2 h) K) : G ΛC x 0 [(0, .ref 47), (1, .int x1), (2, .int x2)] [] h := by
  refine g_iconst (v := (-1)) C dX6_longestNext_0 (by decide) ?_
  refine g_istore_n (L' := [(3, .int (-1)), (0, .ref 47), (1, .int x1), (2, .int x2)]) C dX6_longestNext_1 rfl (by decide) rfl ?_
  refine g_iconst (v := 5) C dX6_longestNext_2 (by decide) ?_
  refine g_istore (L' := [(4, .int 5), (3, .int (-1)), (0, .ref 47), (1, .int x1), (2, .int x2)]) C dX6_longestNext_3 (by decide) rfl ?_
  refine g_sub [2, 3, 4, 1, 0] rfl ?_
  exact k_f6_longestNext_5 C x1 x2 (-1) 5 h hR T

theorem ok_f6_longestNext {l : Launch} {K : Int32 → Prop} (x1 : Int32) (x2 : Int32) (h : Hp) (T : Tt (f6_longestNext x1 x2 h) K) : Ok ΛC l yX6_longestNext cX6_longestNext 5 (some .int) rm_f6_longestNext [.ref 47, .int x1, .int x2] h (PIs K h) :=
  Ok.of RX6 rfl (by decide) ⟨rfl, rfl⟩ (Nat.le_of_ble_eq_true rfl) (fun x C => k_f6_longestNext C x1 x2 h (fun v q => ⟨v, rfl, rfl, q⟩) T)

abbrev rm_f6_longest : Room := { frames := 1, cells := 0, slots := 0, locals := 24 }
noncomputable def f6_longest_136_s (x1 : Nat) (x3 : Int32) (x4 : Int32) (x5 : Int32) (h : Hp) : Option ((Int32 × Int32 × Int32 × Hp) ⊕ (Hp)) :=
  if 6 ≤ x5 then (some (.inr (h))) else (if x4 = (-1) then (some (.inr (h))) else (gd (inb x5 6) <| lt (wI h 50 (ix x5) x4) fun h8 => lt (wI h8 47 3 ((h8.1 47 3) + 1)) fun h9 => lt (x3 &&& ((1 <<< (x4 &&& 31)) ^^^ (-1))) fun v10 => gd (inb x4 6) <| (f6_longestNext (v10 &&& (h9.1 (x1 + 1 + 1 + 2 * ix x4) 4)) v10 h9).bind fun r12 => some (.inl (v10, r12, x5 + 1, h9))))
set_option maxRecDepth 100000 in
set_option maxHeartbeats 4000000 in
theorem k_f6_longest_136_s {x : Mx} {l : Launch} {post0 : Option Value → Hp → Prop} (C : Cx ΛC x l RX6 cX6_longest rm_f6_longest none 7 post0) {K : (Int32 × Int32 × Int32 × Hp) ⊕ (Hp) → Prop} (x1 : Nat) (x3 : Int32) (x4 : Int32) (x5 : Int32) (kx1 : kdC x1 = 9) (h : Hp) (hR : ∀ h : Hp, K (.inr h) → post0 none h) (hL136 : ∀ (x3 : Int32) (x4 : Int32) (x5 : Int32) (h : Hp), K (.inl (x3, x4, x5, h)) → G ΛC x 136 [(0, .ref 47), (1, .ref x1), (3, .int x3), (4, .int x4), (5, .int x5)] [] h) (T : Tt (f6_longest_136_s x1 x3 x4 x5 h) K) : G ΛC x 136 [(0, .ref 47), (1, .ref x1), (3, .int x3), (4, .int x4), (5, .int x5)] [] h := by
  refine g_iload (q := 4) C dX6_longest_136 rfl ?_
  refine g_bipush (v := 6) C dX6_longest_138 (by decide) ?_
  refine g_icmp_ge (tgt := 202) C dX6_longest_140 (by decide) (fun c5 => ?_) (fun c5 => ?_)
  · have T := tt_t T c5
    exact g_vret C dX6_longest_202 (hR _ (tt_some T))
  · have T := tt_f T c5
    refine g_iload (q := 3) C dX6_longest_143 rfl ?_
    refine g_iconst (v := (-1)) C dX6_longest_145 (by decide) ?_
    refine g_icmp_eq (tgt := 202) C dX6_longest_146 (by decide) (fun c6 => ?_) (fun c6 => ?_)
    · have T := tt_t T c6
      exact g_vret C dX6_longest_202 (hR _ (tt_some T))
    · have T := tt_f T c6
      refine g_aload_n (q := 0) C dX6_longest_149 rfl rfl ?_
      refine g_getF (k := 2) (q := 50) C dX6_longest_150 (hpC rfl rfl) rfl fl_X6_18 rfl rfl ?_
      refine g_iload (q := 4) C dX6_longest_153 rfl ?_
      refine g_iload (q := 3) C dX6_longest_155 rfl ?_
      obtain ⟨g7, T⟩ := tt_gd T
      obtain ⟨h8, eh8, T⟩ := tt_lt T
      refine g_iast C dX6_longest_157 (hpC rfl rfl) rfl (inb_of rfl g7) eh8 ?_
      refine g_aload_n (q := 0) C dX6_longest_158 rfl rfl ?_
      refine g_dup C dX6_longest_159 rfl ?_
      refine g_getI (k := 3) C dX6_longest_160 (hpC rfl rfl) rfl fl_X6_21 rfl ?_
      refine g_iconst (v := 1) C dX6_longest_163 (by decide) ?_
      refine g_iadd C dX6_longest_164 ?_
      obtain ⟨h9, eh9, T⟩ := tt_lt T
      refine g_putI (k := 3) C dX6_longest_165 (hpC rfl rfl) rfl fp_X6_21 rfl eh9 ?_
      refine g_iload_n (q := 2) C dX6_longest_168 rfl rfl ?_
      refine g_iconst (v := 1) C dX6_longest_169 (by decide) ?_
      refine g_iload (q := 3) C dX6_longest_170 rfl ?_
      refine g_ishl C dX6_longest_172 ?_
      refine g_iconst (v := (-1)) C dX6_longest_173 (by decide) ?_
      refine g_ixor C dX6_longest_174 ?_
      refine g_iand C dX6_longest_175 ?_
      obtain ⟨v10, ev10, T⟩ := tt_lt T
      refine g_nameI ev10 ?_
      refine g_istore_n (L' := [(3, .int v10), (0, .ref 47), (1, .ref x1), (4, .int x4), (5, .int x5)]) C dX6_longest_176 rfl (by decide) rfl ?_
      refine g_aload_n (q := 1) C dX6_longest_177 rfl rfl ?_
      refine g_iload_n (q := 0) C dX6_longest_178 rfl rfl ?_
      refine g_aload_n (q := 2) C dX6_longest_179 rfl rfl ?_
      refine g_getF (k := 0) (q := x1 + 1) C dX6_longest_180 (hpC kx1 rfl) kx1 fl_X6_49 rfl rfl ?_
      refine g_iload (q := 3) C dX6_longest_183 rfl ?_
      obtain ⟨g11, T⟩ := tt_gd T
      refine g_aald (q := x1 + 1 + 1 + 2 * ix x4) C dX6_longest_185 (hpC (kf_9_0 kx1) rfl) (kf_9_0 kx1) (inb_of (lf_9_0 kx1) g11) rfl ?_
      refine g_getI (k := 4) C dX6_longest_186 (hpC (kboxC (kf_9_0 kx1) g11) rfl) (kboxC (kf_9_0 kx1) g11) fl_X6_53 rfl ?_
      refine g_iand C dX6_longest_189 ?_
      refine g_iload_n (q := 0) C dX6_longest_190 rfl rfl ?_
      refine g_callV (p := 47) (As := [.int (v10 &&& (h9.1 (x1 + 1 + 1 + 2 * ix x4) 4)), .int v10]) C dX6_longest_191 ml_X6_58 yv_f6_longestNext ⟨rfl, rfl⟩ ⟨Nat.le_of_ble_eq_true rfl, Nat.le_of_ble_eq_true rfl⟩ (hpC rfl rfl) rfl rfl rfl (Nat.le_of_ble_eq_true rfl) (ok_f6_longestNext (v10 &&& (h9.1 (x1 + 1 + 1 + 2 * ix x4) 4)) v10 h9 (tt_bind T)) ?_
      rintro _ _ ⟨r12, rfl, rfl, T⟩
      show G ΛC x 194 [(3, .int v10), (0, .ref 47), (1, .ref x1), (4, .int x4), (5, .int x5)] [.int r12] h9
      refine g_istore (L' := [(4, .int r12), (3, .int v10), (0, .ref 47), (1, .ref x1), (5, .int x5)]) C dX6_longest_194 (by decide) rfl ?_
      refine g_iinc (v := x5 + 1) (q := 4) (L' := [(5, .int (x5 + 1)), (4, .int r12), (3, .int v10), (0, .ref 47), (1, .ref x1)]) C dX6_longest_196 rfl (by first | rfl | exact congrArg _ (by decide)) (by decide) rfl ?_
      refine g_goto (tgt := 136) C dX6_longest_199 (by decide) ?_
      refine g_sub [3, 4, 2, 1, 0] rfl ?_
      exact hL136 _ _ _ _ (tt_some T)

noncomputable def f6_longest_136 (x1 : Nat) (x3 : Int32) (x4 : Int32) (x5 : Int32) (h : Hp) : Option (Hp) := lp (fun z : Int32 × Int32 × Int32 × Hp => f6_longest_136_s x1 z.1 z.2.1 z.2.2.1 z.2.2.2) (x3, x4, x5, h)
theorem k_f6_longest_136 {x : Mx} {l : Launch} {post0 : Option Value → Hp → Prop} (C : Cx ΛC x l RX6 cX6_longest rm_f6_longest none 7 post0) {K : Hp → Prop} (x1 : Nat) (x3 : Int32) (x4 : Int32) (x5 : Int32) (kx1 : kdC x1 = 9) (h : Hp) (hR : ∀ h : Hp, K h → post0 none h) (T : Tt (f6_longest_136 x1 x3 x4 x5 h) K) : G ΛC x 136 [(0, .ref 47), (1, .ref x1), (3, .int x3), (4, .int x4), (5, .int x5)] [] h :=
  lp_ind (f := fun z : Int32 × Int32 × Int32 × Hp => f6_longest_136_s x1 z.1 z.2.1 z.2.2.1 z.2.2.2) (P := fun z : Int32 × Int32 × Int32 × Hp => G ΛC x 136 [(0, .ref 47), (1, .ref x1), (3, .int z.1), (4, .int z.2.1), (5, .int z.2.2.1)] [] z.2.2.2) (K := K) (fun z T => k_f6_longest_136_s C (K := KS (fun z : Int32 × Int32 × Int32 × Hp => G ΛC x 136 [(0, .ref 47), (1, .ref x1), (3, .int z.1), (4, .int z.2.1), (5, .int z.2.2.1)] [] z.2.2.2) K) x1 z.1 z.2.1 z.2.2.1 kx1 z.2.2.2 hR (fun _ _ _ _ q => q) T) (x3, x4, x5, h) T
noncomputable def f6_longest_118 (x1 : Nat) (x2 : Int32) (h : Hp) : Option (Hp) :=
  lt (wI h 47 3 0) fun h3 => (f6_longestNext x2 x2 h3).bind fun r4 => f6_longest_136 x1 x2 r4 0 h3
set_option maxRecDepth 100000 in
set_option maxHeartbeats 4000000 in
theorem k_f6_longest_118 {x : Mx} {l : Launch} {post0 : Option Value → Hp → Prop} (C : Cx ΛC x l RX6 cX6_longest rm_f6_longest none 7 post0) {K : Hp → Prop} (x1 : Nat) (x2 : Int32) (kx1 : kdC x1 = 9) (h : Hp) (hR : ∀ h : Hp, K h → post0 none h) (T : Tt (f6_longest_118 x1 x2 h) K) : G ΛC x 118 [(0, .ref 47), (1, .ref x1), (2, .int x2)] [] h := by
  refine g_aload_n (q := 0) C dX6_longest_118 rfl rfl ?_
  refine g_iconst (v := 0) C dX6_longest_119 (by decide) ?_
  obtain ⟨h3, eh3, T⟩ := tt_lt T
  refine g_putI (k := 3) C dX6_longest_120 (hpC rfl rfl) rfl fp_X6_21 rfl eh3 ?_
  refine g_iload_n (q := 2) C dX6_longest_123 rfl rfl ?_
  refine g_istore_n (L' := [(3, .int x2), (0, .ref 47), (1, .ref x1), (2, .int x2)]) C dX6_longest_124 rfl (by decide) rfl ?_
  refine g_aload_n (q := 1) C dX6_longest_125 rfl rfl ?_
  refine g_iload_n (q := 3) C dX6_longest_126 rfl rfl ?_
  refine g_iload_n (q := 3) C dX6_longest_127 rfl rfl ?_
  refine g_callV (p := 47) (As := [.int x2, .int x2]) C dX6_longest_128 ml_X6_58 yv_f6_longestNext ⟨rfl, rfl⟩ ⟨Nat.le_of_ble_eq_true rfl, Nat.le_of_ble_eq_true rfl⟩ (hpC rfl rfl) rfl rfl rfl (Nat.le_of_ble_eq_true rfl) (ok_f6_longestNext x2 x2 h3 (tt_bind T)) ?_
  rintro _ _ ⟨r4, rfl, rfl, T⟩
  show G ΛC x 131 [(3, .int x2), (0, .ref 47), (1, .ref x1), (2, .int x2)] [.int r4] h3
  refine g_istore (L' := [(4, .int r4), (3, .int x2), (0, .ref 47), (1, .ref x1), (2, .int x2)]) C dX6_longest_131 (by decide) rfl ?_
  refine g_iconst (v := 0) C dX6_longest_133 (by decide) ?_
  refine g_istore (L' := [(5, .int 0), (4, .int r4), (3, .int x2), (0, .ref 47), (1, .ref x1), (2, .int x2)]) C dX6_longest_134 (by decide) rfl ?_
  refine g_sub [3, 4, 2, 1, 0] rfl ?_
  exact k_f6_longest_136 C x1 x2 r4 0 kx1 h3 hR T

noncomputable def f6_longest_112 (x1 : Nat) (x2 : Int32) (x3 : Int32) (h : Hp) : Option ((Int32 × Hp) ⊕ (Hp)) :=
  some (.inl (x3 + 1, h))
set_option maxRecDepth 100000 in
set_option maxHeartbeats 4000000 in
theorem k_f6_longest_112 {x : Mx} {l : Launch} {post0 : Option Value → Hp → Prop} (C : Cx ΛC x l RX6 cX6_longest rm_f6_longest none 7 post0) {K : (Int32 × Hp) ⊕ (Hp) → Prop} (x1 : Nat) (x2 : Int32) (x3 : Int32) (kx1 : kdC x1 = 9) (h : Hp) (hR : ∀ h : Hp, K (.inr h) → post0 none h) (hL11 : ∀ (x3 : Int32) (h : Hp), K (.inl (x3, h)) → G ΛC x 11 [(0, .ref 47), (1, .ref x1), (2, .int x2), (3, .int x3)] [] h) (T : Tt (f6_longest_112 x1 x2 x3 h) K) : G ΛC x 112 [(0, .ref 47), (1, .ref x1), (2, .int x2), (3, .int x3)] [] h := by
  refine g_iinc (v := x3 + 1) (q := 3) (L' := [(3, .int (x3 + 1)), (0, .ref 47), (1, .ref x1), (2, .int x2)]) C dX6_longest_112 rfl (by first | rfl | exact congrArg _ (by decide)) (by decide) rfl ?_
  refine g_goto (tgt := 11) C dX6_longest_115 (by decide) ?_
  refine g_sub [1, 2, 3, 0] rfl ?_
  exact hL11 _ _ (tt_some T)

noncomputable def f6_longest_106 (x1 : Nat) (x2 : Int32) (x3 : Int32) (x4 : Int32) (h : Hp) : Option ((Int32 × Hp) ⊕ ((Int32 × Hp) ⊕ (Hp))) :=
  some (.inl (x4 + 1, h))
set_option maxRecDepth 100000 in
set_option maxHeartbeats 4000000 in
theorem k_f6_longest_106 {x : Mx} {l : Launch} {post0 : Option Value → Hp → Prop} (C : Cx ΛC x l RX6 cX6_longest rm_f6_longest none 7 post0) {K : (Int32 × Hp) ⊕ ((Int32 × Hp) ⊕ (Hp)) → Prop} (x1 : Nat) (x2 : Int32) (x3 : Int32) (x4 : Int32) (kx1 : kdC x1 = 9) (h : Hp) (hR : ∀ h : Hp, K (.inr (.inr h)) → post0 none h) (hL11 : ∀ (x3 : Int32) (h : Hp), K (.inr (.inl (x3, h))) → G ΛC x 11 [(0, .ref 47), (1, .ref x1), (2, .int x2), (3, .int x3)] [] h) (hL19 : ∀ (x4 : Int32) (h : Hp), K (.inl (x4, h)) → G ΛC x 19 [(0, .ref 47), (1, .ref x1), (2, .int x2), (3, .int x3), (4, .int x4)] [] h) (T : Tt (f6_longest_106 x1 x2 x3 x4 h) K) : G ΛC x 106 [(0, .ref 47), (1, .ref x1), (2, .int x2), (3, .int x3), (4, .int x4)] [] h := by
  refine g_iinc (v := x4 + 1) (q := 4) (L' := [(4, .int (x4 + 1)), (0, .ref 47), (1, .ref x1), (2, .int x2), (3, .int x3)]) C dX6_longest_106 rfl (by first | rfl | exact congrArg _ (by decide)) (by decide) rfl ?_
  refine g_goto (tgt := 19) C dX6_longest_109 (by decide) ?_
  refine g_sub [1, 2, 3, 4, 0] rfl ?_
  exact hL19 _ _ (tt_some T)

noncomputable def f6_longest_105 (x1 : Nat) (x2 : Int32) (x3 : Int32) (x4 : Int32) (s0 : Int32) (s1 : Int32) (h : Hp) : Option ((Int32 × Hp) ⊕ ((Int32 × Hp) ⊕ (Hp))) :=
  gd (inb s1 384) <| lt (wI h 48 (ix s1) s0) fun h21 => f6_longest_106 x1 x2 x3 x4 h21
set_option maxRecDepth 100000 in
set_option maxHeartbeats 4000000 in
theorem k_f6_longest_105 {x : Mx} {l : Launch} {post0 : Option Value → Hp → Prop} (C : Cx ΛC x l RX6 cX6_longest rm_f6_longest none 7 post0) {K : (Int32 × Hp) ⊕ ((Int32 × Hp) ⊕ (Hp)) → Prop} (x1 : Nat) (x2 : Int32) (x3 : Int32) (x4 : Int32) (s0 : Int32) (s1 : Int32) (kx1 : kdC x1 = 9) (h : Hp) (hR : ∀ h : Hp, K (.inr (.inr h)) → post0 none h) (hL11 : ∀ (x3 : Int32) (h : Hp), K (.inr (.inl (x3, h))) → G ΛC x 11 [(0, .ref 47), (1, .ref x1), (2, .int x2), (3, .int x3)] [] h) (hL19 : ∀ (x4 : Int32) (h : Hp), K (.inl (x4, h)) → G ΛC x 19 [(0, .ref 47), (1, .ref x1), (2, .int x2), (3, .int x3), (4, .int x4)] [] h) (T : Tt (f6_longest_105 x1 x2 x3 x4 s0 s1 h) K) : G ΛC x 105 [(0, .ref 47), (1, .ref x1), (2, .int x2), (3, .int x3), (4, .int x4)] [.int s0, .int s1, .ref 48] h := by
  obtain ⟨g20, T⟩ := tt_gd T
  obtain ⟨h21, eh21, T⟩ := tt_lt T
  refine g_iast C dX6_longest_105 (hpC rfl rfl) rfl (inb_of rfl g20) eh21 ?_
  exact k_f6_longest_106 C x1 x2 x3 x4 kx1 h21 hR hL11 hL19 T

noncomputable def f6_longest_19_s (x1 : Nat) (x2 : Int32) (x3 : Int32) (x4 : Int32) (h : Hp) : Option ((Int32 × Hp) ⊕ ((Int32 × Hp) ⊕ (Hp))) :=
  if h.1 x1 1 ≤ x4 then ((f6_longest_112 x1 x2 x3 h).map (fun z => .inr (z))) else (if (x3 >>> (x4 &&& 31)) &&& 1 = 1 then (lt (x3 &&& ((1 <<< (x4 &&& 31)) ^^^ (-1))) fun v15 => gd (inb x4 6) <| (f6_longestNext (v15 &&& (h.1 (x1 + 1 + 1 + 2 * ix x4) 4)) v15 h).bind fun r17 => if r17 = (-1) then (f6_longest_105 x1 x2 x3 x4 1 ((x3 * 6) + x4) h) else (gd (inb ((v15 * 6) + r17) 384) <| f6_longest_105 x1 x2 x3 x4 (1 + (h.1 48 (ix ((v15 * 6) + r17)))) ((x3 * 6) + x4) h)) else (f6_longest_106 x1 x2 x3 x4 h))
set_option maxRecDepth 100000 in
set_option maxHeartbeats 4000000 in
theorem k_f6_longest_19_s {x : Mx} {l : Launch} {post0 : Option Value → Hp → Prop} (C : Cx ΛC x l RX6 cX6_longest rm_f6_longest none 7 post0) {K : (Int32 × Hp) ⊕ ((Int32 × Hp) ⊕ (Hp)) → Prop} (x1 : Nat) (x2 : Int32) (x3 : Int32) (x4 : Int32) (kx1 : kdC x1 = 9) (h : Hp) (hR : ∀ h : Hp, K (.inr (.inr h)) → post0 none h) (hL11 : ∀ (x3 : Int32) (h : Hp), K (.inr (.inl (x3, h))) → G ΛC x 11 [(0, .ref 47), (1, .ref x1), (2, .int x2), (3, .int x3)] [] h) (hL19 : ∀ (x4 : Int32) (h : Hp), K (.inl (x4, h)) → G ΛC x 19 [(0, .ref 47), (1, .ref x1), (2, .int x2), (3, .int x3), (4, .int x4)] [] h) (T : Tt (f6_longest_19_s x1 x2 x3 x4 h) K) : G ΛC x 19 [(0, .ref 47), (1, .ref x1), (2, .int x2), (3, .int x3), (4, .int x4)] [] h := by
  refine g_iload (q := 4) C dX6_longest_19 rfl ?_
  refine g_aload_n (q := 1) C dX6_longest_21 rfl rfl ?_
  refine g_getI (k := 1) C dX6_longest_22 (hpC kx1 rfl) kx1 fl_X6_44 rfl ?_
  refine g_icmp_ge (tgt := 112) C dX6_longest_25 (by decide) (fun c13 => ?_) (fun c13 => ?_)
  · have T := tt_t T c13
    refine g_sub [0, 1, 2, 3] rfl ?_
    exact k_f6_longest_112 C x1 x2 x3 kx1 h hR hL11 (tt_map T)
  · have T := tt_f T c13
    refine g_iload_n (q := 3) C dX6_longest_28 rfl rfl ?_
    refine g_iload (q := 4) C dX6_longest_29 rfl ?_
    refine g_ishr C dX6_longest_31 ?_
    refine g_iconst (v := 1) C dX6_longest_32 (by decide) ?_
    refine g_iand C dX6_longest_33 ?_
    refine g_iconst (v := 1) C dX6_longest_34 (by decide) ?_
    refine g_icmp_ne (tgt := 106) C dX6_longest_35 (by decide) (fun c14 => ?_) (fun c14 => ?_)
    · have T := tt_f T c14
      exact k_f6_longest_106 C x1 x2 x3 x4 kx1 h hR hL11 hL19 T
    · have T := tt_t T c14
      refine g_iload_n (q := 3) C dX6_longest_38 rfl rfl ?_
      refine g_iconst (v := 1) C dX6_longest_39 (by decide) ?_
      refine g_iload (q := 4) C dX6_longest_40 rfl ?_
      refine g_ishl C dX6_longest_42 ?_
      refine g_iconst (v := (-1)) C dX6_longest_43 (by decide) ?_
      refine g_ixor C dX6_longest_44 ?_
      refine g_iand C dX6_longest_45 ?_
      obtain ⟨v15, ev15, T⟩ := tt_lt T
      refine g_nameI ev15 ?_
      refine g_istore (L' := [(5, .int v15), (0, .ref 47), (1, .ref x1), (2, .int x2), (3, .int x3), (4, .int x4)]) C dX6_longest_46 (by decide) rfl ?_
      refine g_aload_n (q := 1) C dX6_longest_48 rfl rfl ?_
      refine g_iload (q := 0) C dX6_longest_49 rfl ?_
      refine g_aload_n (q := 2) C dX6_longest_51 rfl rfl ?_
      refine g_getF (k := 0) (q := x1 + 1) C dX6_longest_52 (hpC kx1 rfl) kx1 fl_X6_49 rfl rfl ?_
      refine g_iload (q := 5) C dX6_longest_55 rfl ?_
      obtain ⟨g16, T⟩ := tt_gd T
      refine g_aald (q := x1 + 1 + 1 + 2 * ix x4) C dX6_longest_57 (hpC (kf_9_0 kx1) rfl) (kf_9_0 kx1) (inb_of (lf_9_0 kx1) g16) rfl ?_
      refine g_getI (k := 4) C dX6_longest_58 (hpC (kboxC (kf_9_0 kx1) g16) rfl) (kboxC (kf_9_0 kx1) g16) fl_X6_53 rfl ?_
      refine g_iand C dX6_longest_61 ?_
      refine g_iload (q := 0) C dX6_longest_62 rfl ?_
      refine g_callV (p := 47) (As := [.int (v15 &&& (h.1 (x1 + 1 + 1 + 2 * ix x4) 4)), .int v15]) C dX6_longest_64 ml_X6_58 yv_f6_longestNext ⟨rfl, rfl⟩ ⟨Nat.le_of_ble_eq_true rfl, Nat.le_of_ble_eq_true rfl⟩ (hpC rfl rfl) rfl rfl rfl (Nat.le_of_ble_eq_true rfl) (ok_f6_longestNext (v15 &&& (h.1 (x1 + 1 + 1 + 2 * ix x4) 4)) v15 h (tt_bind T)) ?_
      rintro _ _ ⟨r17, rfl, rfl, T⟩
      show G ΛC x 67 [(5, .int v15), (0, .ref 47), (1, .ref x1), (2, .int x2), (3, .int x3), (4, .int x4)] [.int r17] h
      refine g_istore (L' := [(6, .int r17), (5, .int v15), (0, .ref 47), (1, .ref x1), (2, .int x2), (3, .int x3), (4, .int x4)]) C dX6_longest_67 (by decide) rfl ?_
      refine g_aload_n (q := 2) C dX6_longest_69 rfl rfl ?_
      refine g_getF (k := 0) (q := 48) C dX6_longest_70 (hpC rfl rfl) rfl fl_X6_9 rfl rfl ?_
      refine g_iload_n (q := 5) C dX6_longest_73 rfl rfl ?_
      refine g_bipush (v := 6) C dX6_longest_74 (by decide) ?_
      refine g_imul C dX6_longest_76 ?_
      refine g_iload (q := 6) C dX6_longest_77 rfl ?_
      refine g_iadd C dX6_longest_79 ?_
      refine g_iload (q := 0) C dX6_longest_80 rfl ?_
      refine g_iconst (v := (-1)) C dX6_longest_82 (by decide) ?_
      refine g_icmp_ne (tgt := 90) C dX6_longest_83 (by decide) (fun c18 => ?_) (fun c18 => ?_)
      · have T := tt_f T c18
        refine g_iconst (v := 1) C dX6_longest_90 (by decide) ?_
        refine g_aload_n (q := 2) C dX6_longest_91 rfl rfl ?_
        refine g_getF (k := 0) (q := 48) C dX6_longest_92 (hpC rfl rfl) rfl fl_X6_9 rfl rfl ?_
        refine g_iload (q := 1) C dX6_longest_95 rfl ?_
        refine g_bipush (v := 6) C dX6_longest_97 (by decide) ?_
        refine g_imul C dX6_longest_99 ?_
        refine g_iload (q := 0) C dX6_longest_100 rfl ?_
        refine g_iadd C dX6_longest_102 ?_
        obtain ⟨g19, T⟩ := tt_gd T
        refine g_iald C dX6_longest_103 (hpC rfl rfl) rfl (inb_of rfl g19) ?_
        refine g_iadd C dX6_longest_104 ?_
        refine g_sub [2, 3, 4, 5, 6] rfl ?_
        exact k_f6_longest_105 C x1 x2 x3 x4 (1 + (h.1 48 (ix ((v15 * 6) + r17)))) ((x3 * 6) + x4) kx1 h hR hL11 hL19 T
      · have T := tt_t T c18
        refine g_iconst (v := 1) C dX6_longest_86 (by decide) ?_
        refine g_goto (tgt := 105) C dX6_longest_87 (by decide) ?_
        refine g_sub [2, 3, 4, 5, 6] rfl ?_
        exact k_f6_longest_105 C x1 x2 x3 x4 1 ((x3 * 6) + x4) kx1 h hR hL11 hL19 T

noncomputable def f6_longest_19 (x1 : Nat) (x2 : Int32) (x3 : Int32) (x4 : Int32) (h : Hp) : Option ((Int32 × Hp) ⊕ (Hp)) := lp (fun z : Int32 × Hp => f6_longest_19_s x1 x2 x3 z.1 z.2) (x4, h)
theorem k_f6_longest_19 {x : Mx} {l : Launch} {post0 : Option Value → Hp → Prop} (C : Cx ΛC x l RX6 cX6_longest rm_f6_longest none 7 post0) {K : (Int32 × Hp) ⊕ (Hp) → Prop} (x1 : Nat) (x2 : Int32) (x3 : Int32) (x4 : Int32) (kx1 : kdC x1 = 9) (h : Hp) (hR : ∀ h : Hp, K (.inr h) → post0 none h) (hL11 : ∀ (x3 : Int32) (h : Hp), K (.inl (x3, h)) → G ΛC x 11 [(0, .ref 47), (1, .ref x1), (2, .int x2), (3, .int x3)] [] h) (T : Tt (f6_longest_19 x1 x2 x3 x4 h) K) : G ΛC x 19 [(0, .ref 47), (1, .ref x1), (2, .int x2), (3, .int x3), (4, .int x4)] [] h :=
  lp_ind (f := fun z : Int32 × Hp => f6_longest_19_s x1 x2 x3 z.1 z.2) (P := fun z : Int32 × Hp => G ΛC x 19 [(0, .ref 47), (1, .ref x1), (2, .int x2), (3, .int x3), (4, .int z.1)] [] z.2) (K := K) (fun z T => k_f6_longest_19_s C (K := KS (fun z : Int32 × Hp => G ΛC x 19 [(0, .ref 47), (1, .ref x1), (2, .int x2), (3, .int x3), (4, .int z.1)] [] z.2) K) x1 x2 x3 z.1 kx1 z.2 hR hL11 (fun _ _ q => q) T) (x4, h) T
noncomputable def f6_longest_11_s (x1 : Nat) (x2 : Int32) (x3 : Int32) (h : Hp) : Option ((Int32 × Hp) ⊕ (Hp)) :=
  if x2 < x3 then ((f6_longest_118 x1 x2 h).map (fun z => .inr (z))) else (f6_longest_19 x1 x2 x3 0 h)
set_option maxRecDepth 100000 in
set_option maxHeartbeats 4000000 in
theorem k_f6_longest_11_s {x : Mx} {l : Launch} {post0 : Option Value → Hp → Prop} (C : Cx ΛC x l RX6 cX6_longest rm_f6_longest none 7 post0) {K : (Int32 × Hp) ⊕ (Hp) → Prop} (x1 : Nat) (x2 : Int32) (x3 : Int32) (kx1 : kdC x1 = 9) (h : Hp) (hR : ∀ h : Hp, K (.inr h) → post0 none h) (hL11 : ∀ (x3 : Int32) (h : Hp), K (.inl (x3, h)) → G ΛC x 11 [(0, .ref 47), (1, .ref x1), (2, .int x2), (3, .int x3)] [] h) (T : Tt (f6_longest_11_s x1 x2 x3 h) K) : G ΛC x 11 [(0, .ref 47), (1, .ref x1), (2, .int x2), (3, .int x3)] [] h := by
  refine g_iload_n (q := 3) C dX6_longest_11 rfl rfl ?_
  refine g_iload_n (q := 2) C dX6_longest_12 rfl rfl ?_
  refine g_icmp_gt (tgt := 118) C dX6_longest_13 (by decide) (fun c2 => ?_) (fun c2 => ?_)
  · have T := tt_t T c2
    refine g_sub [0, 1, 2] rfl ?_
    exact k_f6_longest_118 C x1 x2 kx1 h hR (tt_map T)
  · have T := tt_f T c2
    refine g_iconst (v := 0) C dX6_longest_16 (by decide) ?_
    refine g_istore (L' := [(4, .int 0), (0, .ref 47), (1, .ref x1), (2, .int x2), (3, .int x3)]) C dX6_longest_17 (by decide) rfl ?_
    refine g_sub [1, 2, 3, 4, 0] rfl ?_
    exact k_f6_longest_19 C x1 x2 x3 0 kx1 h hR hL11 T

noncomputable def f6_longest_11 (x1 : Nat) (x2 : Int32) (x3 : Int32) (h : Hp) : Option (Hp) := lp (fun z : Int32 × Hp => f6_longest_11_s x1 x2 z.1 z.2) (x3, h)
theorem k_f6_longest_11 {x : Mx} {l : Launch} {post0 : Option Value → Hp → Prop} (C : Cx ΛC x l RX6 cX6_longest rm_f6_longest none 7 post0) {K : Hp → Prop} (x1 : Nat) (x2 : Int32) (x3 : Int32) (kx1 : kdC x1 = 9) (h : Hp) (hR : ∀ h : Hp, K h → post0 none h) (T : Tt (f6_longest_11 x1 x2 x3 h) K) : G ΛC x 11 [(0, .ref 47), (1, .ref x1), (2, .int x2), (3, .int x3)] [] h :=
  lp_ind (f := fun z : Int32 × Hp => f6_longest_11_s x1 x2 z.1 z.2) (P := fun z : Int32 × Hp => G ΛC x 11 [(0, .ref 47), (1, .ref x1), (2, .int x2), (3, .int z.1)] [] z.2) (K := K) (fun z T => k_f6_longest_11_s C (K := KS (fun z : Int32 × Hp => G ΛC x 11 [(0, .ref 47), (1, .ref x1), (2, .int x2), (3, .int z.1)] [] z.2) K) x1 x2 z.1 kx1 z.2 hR (fun _ _ q => q) T) (x3, h) T
noncomputable def f6_longest (x1 : Nat) (h : Hp) : Option (Hp) :=
  lt ((1 <<< ((h.1 x1 1) &&& 31)) - 1) fun v1 => f6_longest_11 x1 v1 1 h
set_option maxRecDepth 100000 in
set_option maxHeartbeats 4000000 in
theorem k_f6_longest {x : Mx} {l : Launch} {post0 : Option Value → Hp → Prop} (C : Cx ΛC x l RX6 cX6_longest rm_f6_longest none 7 post0) {K : Hp → Prop} (x1 : Nat) (kx1 : kdC x1 = 9) (h : Hp) (hR : ∀ h : Hp, K h → post0 none h) (T : Tt (f6_longest x1 h) K) : G ΛC x 0 [(0, .ref 47), (1, .ref x1)] [] h := by
  refine g_iconst (v := 1) C dX6_longest_0 (by decide) ?_
  refine g_aload_n (q := 1) C dX6_longest_1 rfl rfl ?_
  refine g_getI (k := 1) C dX6_longest_2 (hpC kx1 rfl) kx1 fl_X6_44 rfl ?_
  refine g_ishl C dX6_longest_5 ?_
  refine g_iconst (v := 1) C dX6_longest_6 (by decide) ?_
  refine g_isub C dX6_longest_7 ?_
  obtain ⟨v1, ev1, T⟩ := tt_lt T
  refine g_nameI ev1 ?_
  refine g_istore_n (L' := [(2, .int v1), (0, .ref 47), (1, .ref x1)]) C dX6_longest_8 rfl (by decide) rfl ?_
  refine g_iconst (v := 1) C dX6_longest_9 (by decide) ?_
  refine g_istore_n (L' := [(3, .int 1), (2, .int v1), (0, .ref 47), (1, .ref x1)]) C dX6_longest_10 rfl (by decide) rfl ?_
  refine g_sub [2, 3, 1, 0] rfl ?_
  exact k_f6_longest_11 C x1 v1 1 kx1 h hR T

theorem ok_f6_longest {l : Launch} {K : Hp → Prop} (x1 : Nat) (kx1 : kdC x1 = 9) (h : Hp) (T : Tt (f6_longest x1 h) K) : Ok ΛC l yX6_longest cX6_longest 7 none rm_f6_longest [.ref 47, .ref x1] h (PVw K) :=
  Ok.of RX6 rfl (by decide) ⟨rfl, rfl⟩ (Nat.le_of_ble_eq_true rfl) (fun x C => k_f6_longest C x1 kx1 h (fun _ q => ⟨rfl, q⟩) T)

abbrev rm_f2_longestRun : Room := { frames := 2, cells := 0, slots := 0, locals := 46 }
noncomputable def f2_longestRun_83 (x1 : Int32) (x2 : Int32) (x3 : Int32) (x4 : Int32) (h : Hp) : Option ((Int32 × Int32) ⊕ (Int32)) :=
  some (.inl (x3, x4 + 1))
set_option maxRecDepth 100000 in
set_option maxHeartbeats 4000000 in
theorem k_f2_longestRun_83 {x : Mx} {l : Launch} {post0 : Option Value → Hp → Prop} (C : Cx ΛC x l RX2 cX2_longestRun rm_f2_longestRun (some .int) 7 post0) {K : (Int32 × Int32) ⊕ (Int32) → Prop} (x1 : Int32) (x2 : Int32) (x3 : Int32) (x4 : Int32) (h : Hp) (hR : ∀ v : Int32, K (.inr v) → post0 (some (.int v)) h) (hL5 : ∀ (x3 : Int32) (x4 : Int32), K (.inl (x3, x4)) → G ΛC x 5 [(0, .ref 45), (1, .int x1), (2, .int x2), (3, .int x3), (4, .int x4)] [] h) (T : Tt (f2_longestRun_83 x1 x2 x3 x4 h) K) : G ΛC x 83 [(0, .ref 45), (1, .int x1), (2, .int x2), (3, .int x3), (4, .int x4)] [] h := by
  refine g_iinc (v := x4 + 1) (q := 4) (L' := [(4, .int (x4 + 1)), (0, .ref 45), (1, .int x1), (2, .int x2), (3, .int x3)]) C dX2_longestRun_83 rfl (by first | rfl | exact congrArg _ (by decide)) (by decide) rfl ?_
  refine g_goto (tgt := 5) C dX2_longestRun_86 (by decide) ?_
  refine g_sub [1, 2, 3, 4, 0] rfl ?_
  exact hL5 _ _ (tt_some T)

noncomputable def f2_longestRun_70 (x1 : Int32) (x2 : Int32) (x3 : Int32) (x4 : Int32) (x5 : Int32) (x6 : Int32) (h : Hp) : Option ((Int32 × Int32) ⊕ ((Int32 × Int32) ⊕ (Int32))) :=
  lt ((if x3 < x6 then x6 else x3 : Int32)) fun v4 => some (.inl (v4, x5 + 1))
set_option maxRecDepth 100000 in
set_option maxHeartbeats 4000000 in
theorem k_f2_longestRun_70 {x : Mx} {l : Launch} {post0 : Option Value → Hp → Prop} (C : Cx ΛC x l RX2 cX2_longestRun rm_f2_longestRun (some .int) 7 post0) {K : (Int32 × Int32) ⊕ ((Int32 × Int32) ⊕ (Int32)) → Prop} (x1 : Int32) (x2 : Int32) (x3 : Int32) (x4 : Int32) (x5 : Int32) (x6 : Int32) (h : Hp) (hR : ∀ v : Int32, K (.inr (.inr v)) → post0 (some (.int v)) h) (hL5 : ∀ (x3 : Int32) (x4 : Int32), K (.inr (.inl (x3, x4))) → G ΛC x 5 [(0, .ref 45), (1, .int x1), (2, .int x2), (3, .int x3), (4, .int x4)] [] h) (hL15 : ∀ (x3 : Int32) (x5 : Int32), K (.inl (x3, x5)) → G ΛC x 15 [(0, .ref 45), (1, .int x1), (2, .int x2), (3, .int x3), (4, .int x4), (5, .int x5)] [] h) (T : Tt (f2_longestRun_70 x1 x2 x3 x4 x5 x6 h) K) : G ΛC x 70 [(0, .ref 45), (1, .int x1), (2, .int x2), (3, .int x3), (4, .int x4), (5, .int x5), (6, .int x6)] [] h := by
  refine g_iload_n (q := 3) C dX2_longestRun_70 rfl rfl ?_
  refine g_iload (q := 6) C dX2_longestRun_71 rfl ?_
  refine g_mmax C dX2_longestRun_73 mm_X2_39 ms_max mi_math mc_max (Nat.le_of_ble_eq_true rfl) (Nat.le_of_ble_eq_true rfl) ?_
  obtain ⟨v4, ev4, T⟩ := tt_lt T
  refine g_nameI ev4 ?_
  refine g_istore_n (L' := [(3, .int v4), (0, .ref 45), (1, .int x1), (2, .int x2), (4, .int x4), (5, .int x5), (6, .int x6)]) C dX2_longestRun_76 rfl (by decide) rfl ?_
  refine g_iinc (v := x5 + 1) (q := 5) (L' := [(5, .int (x5 + 1)), (3, .int v4), (0, .ref 45), (1, .int x1), (2, .int x2), (4, .int x4), (6, .int x6)]) C dX2_longestRun_77 rfl (by first | rfl | exact congrArg _ (by decide)) (by decide) rfl ?_
  refine g_goto (tgt := 15) C dX2_longestRun_80 (by decide) ?_
  refine g_sub [2, 3, 4, 1, 5, 0] rfl ?_
  exact hL15 _ _ (tt_some T)

noncomputable def f2_longestRun_25_s (x1 : Int32) (x2 : Int32) (x3 : Int32) (x4 : Int32) (x5 : Int32) (x6 : Int32) (h : Hp) : Option ((Int32) ⊕ ((Int32 × Int32) ⊕ ((Int32 × Int32) ⊕ (Int32)))) :=
  if 8 ≤ x4 + x6 then ((f2_longestRun_70 x1 x2 x3 x4 x5 x6 h).map (fun z => .inr (z))) else (if 8 ≤ x5 + x6 then ((f2_longestRun_70 x1 x2 x3 x4 x5 x6 h).map (fun z => .inr (z))) else ((f2_sameAbove x1 (x4 + x6) x2 (x5 + x6) h).bind fun r6 => if r6 = 0 then ((f2_longestRun_70 x1 x2 x3 x4 x5 x6 h).map (fun z => .inr (z))) else (some (.inl (x6 + 1)))))
set_option maxRecDepth 100000 in
set_option maxHeartbeats 4000000 in
theorem k_f2_longestRun_25_s {x : Mx} {l : Launch} {post0 : Option Value → Hp → Prop} (C : Cx ΛC x l RX2 cX2_longestRun rm_f2_longestRun (some .int) 7 post0) {K : (Int32) ⊕ ((Int32 × Int32) ⊕ ((Int32 × Int32) ⊕ (Int32))) → Prop} (x1 : Int32) (x2 : Int32) (x3 : Int32) (x4 : Int32) (x5 : Int32) (x6 : Int32) (h : Hp) (hR : ∀ v : Int32, K (.inr (.inr (.inr v))) → post0 (some (.int v)) h) (hL5 : ∀ (x3 : Int32) (x4 : Int32), K (.inr (.inr (.inl (x3, x4)))) → G ΛC x 5 [(0, .ref 45), (1, .int x1), (2, .int x2), (3, .int x3), (4, .int x4)] [] h) (hL15 : ∀ (x3 : Int32) (x5 : Int32), K (.inr (.inl (x3, x5))) → G ΛC x 15 [(0, .ref 45), (1, .int x1), (2, .int x2), (3, .int x3), (4, .int x4), (5, .int x5)] [] h) (hL25 : ∀ (x6 : Int32), K (.inl x6) → G ΛC x 25 [(0, .ref 45), (1, .int x1), (2, .int x2), (3, .int x3), (4, .int x4), (5, .int x5), (6, .int x6)] [] h) (T : Tt (f2_longestRun_25_s x1 x2 x3 x4 x5 x6 h) K) : G ΛC x 25 [(0, .ref 45), (1, .int x1), (2, .int x2), (3, .int x3), (4, .int x4), (5, .int x5), (6, .int x6)] [] h := by
  refine g_iload (q := 4) C dX2_longestRun_25 rfl ?_
  refine g_iload (q := 6) C dX2_longestRun_27 rfl ?_
  refine g_iadd C dX2_longestRun_29 ?_
  refine g_bipush (v := 8) C dX2_longestRun_30 (by decide) ?_
  refine g_icmp_ge (tgt := 70) C dX2_longestRun_32 (by decide) (fun c3 => ?_) (fun c3 => ?_)
  · have T := tt_t T c3
    exact k_f2_longestRun_70 C x1 x2 x3 x4 x5 x6 h hR hL5 hL15 (tt_map T)
  · have T := tt_f T c3
    refine g_iload (q := 5) C dX2_longestRun_35 rfl ?_
    refine g_iload (q := 6) C dX2_longestRun_37 rfl ?_
    refine g_iadd C dX2_longestRun_39 ?_
    refine g_bipush (v := 8) C dX2_longestRun_40 (by decide) ?_
    refine g_icmp_ge (tgt := 70) C dX2_longestRun_42 (by decide) (fun c5 => ?_) (fun c5 => ?_)
    · have T := tt_t T c5
      exact k_f2_longestRun_70 C x1 x2 x3 x4 x5 x6 h hR hL5 hL15 (tt_map T)
    · have T := tt_f T c5
      refine g_aload_n (q := 0) C dX2_longestRun_45 rfl rfl ?_
      refine g_iload_n (q := 1) C dX2_longestRun_46 rfl rfl ?_
      refine g_iload (q := 4) C dX2_longestRun_47 rfl ?_
      refine g_iload (q := 6) C dX2_longestRun_49 rfl ?_
      refine g_iadd C dX2_longestRun_51 ?_
      refine g_iload_n (q := 2) C dX2_longestRun_52 rfl rfl ?_
      refine g_iload (q := 5) C dX2_longestRun_53 rfl ?_
      refine g_iload (q := 6) C dX2_longestRun_55 rfl ?_
      refine g_iadd C dX2_longestRun_57 ?_
      refine g_callV (p := 45) (As := [.int x1, .int (x4 + x6), .int x2, .int (x5 + x6)]) C dX2_longestRun_58 ml_X2_35 yv_f2_sameAbove ⟨rfl, rfl⟩ ⟨Nat.le_of_ble_eq_true rfl, Nat.le_of_ble_eq_true rfl⟩ (hpC rfl rfl) rfl rfl rfl (Nat.le_of_ble_eq_true rfl) (ok_f2_sameAbove x1 (x4 + x6) x2 (x5 + x6) h (tt_bind T)) ?_
      rintro _ _ ⟨r6, rfl, rfl, T⟩
      show G ΛC x 61 [(0, .ref 45), (1, .int x1), (2, .int x2), (3, .int x3), (4, .int x4), (5, .int x5), (6, .int x6)] [.int r6] h
      refine g_if_eq (tgt := 70) C dX2_longestRun_61 (by decide) (fun c7 => ?_) (fun c7 => ?_)
      · have T := tt_t T c7
        exact k_f2_longestRun_70 C x1 x2 x3 x4 x5 x6 h hR hL5 hL15 (tt_map T)
      · have T := tt_f T c7
        refine g_iinc (v := x6 + 1) (q := 6) (L' := [(6, .int (x6 + 1)), (0, .ref 45), (1, .int x1), (2, .int x2), (3, .int x3), (4, .int x4), (5, .int x5)]) C dX2_longestRun_64 rfl (by first | rfl | exact congrArg _ (by decide)) (by decide) rfl ?_
        refine g_goto (tgt := 25) C dX2_longestRun_67 (by decide) ?_
        refine g_sub [1, 2, 3, 4, 5, 6, 0] rfl ?_
        exact hL25 _ (tt_some T)

noncomputable def f2_longestRun_25 (x1 : Int32) (x2 : Int32) (x3 : Int32) (x4 : Int32) (x5 : Int32) (x6 : Int32) (h : Hp) : Option ((Int32 × Int32) ⊕ ((Int32 × Int32) ⊕ (Int32))) := lp (fun z : Int32 => f2_longestRun_25_s x1 x2 x3 x4 x5 z h) x6
theorem k_f2_longestRun_25 {x : Mx} {l : Launch} {post0 : Option Value → Hp → Prop} (C : Cx ΛC x l RX2 cX2_longestRun rm_f2_longestRun (some .int) 7 post0) {K : (Int32 × Int32) ⊕ ((Int32 × Int32) ⊕ (Int32)) → Prop} (x1 : Int32) (x2 : Int32) (x3 : Int32) (x4 : Int32) (x5 : Int32) (x6 : Int32) (h : Hp) (hR : ∀ v : Int32, K (.inr (.inr v)) → post0 (some (.int v)) h) (hL5 : ∀ (x3 : Int32) (x4 : Int32), K (.inr (.inl (x3, x4))) → G ΛC x 5 [(0, .ref 45), (1, .int x1), (2, .int x2), (3, .int x3), (4, .int x4)] [] h) (hL15 : ∀ (x3 : Int32) (x5 : Int32), K (.inl (x3, x5)) → G ΛC x 15 [(0, .ref 45), (1, .int x1), (2, .int x2), (3, .int x3), (4, .int x4), (5, .int x5)] [] h) (T : Tt (f2_longestRun_25 x1 x2 x3 x4 x5 x6 h) K) : G ΛC x 25 [(0, .ref 45), (1, .int x1), (2, .int x2), (3, .int x3), (4, .int x4), (5, .int x5), (6, .int x6)] [] h :=
  lp_ind (f := fun z : Int32 => f2_longestRun_25_s x1 x2 x3 x4 x5 z h) (P := fun z : Int32 => G ΛC x 25 [(0, .ref 45), (1, .int x1), (2, .int x2), (3, .int x3), (4, .int x4), (5, .int x5), (6, .int z)] [] h) (K := K) (fun z T => k_f2_longestRun_25_s C (K := KS (fun z : Int32 => G ΛC x 25 [(0, .ref 45), (1, .int x1), (2, .int x2), (3, .int x3), (4, .int x4), (5, .int x5), (6, .int z)] [] h) K) x1 x2 x3 x4 x5 z h hR hL5 hL15 (fun _ q => q) T) x6 T
noncomputable def f2_longestRun_15_s (x1 : Int32) (x2 : Int32) (x3 : Int32) (x4 : Int32) (x5 : Int32) (h : Hp) : Option ((Int32 × Int32) ⊕ ((Int32 × Int32) ⊕ (Int32))) :=
  if 8 ≤ x5 then ((f2_longestRun_83 x1 x2 x3 x4 h).map (fun z => .inr (z))) else (f2_longestRun_25 x1 x2 x3 x4 x5 0 h)
set_option maxRecDepth 100000 in
set_option maxHeartbeats 4000000 in
theorem k_f2_longestRun_15_s {x : Mx} {l : Launch} {post0 : Option Value → Hp → Prop} (C : Cx ΛC x l RX2 cX2_longestRun rm_f2_longestRun (some .int) 7 post0) {K : (Int32 × Int32) ⊕ ((Int32 × Int32) ⊕ (Int32)) → Prop} (x1 : Int32) (x2 : Int32) (x3 : Int32) (x4 : Int32) (x5 : Int32) (h : Hp) (hR : ∀ v : Int32, K (.inr (.inr v)) → post0 (some (.int v)) h) (hL5 : ∀ (x3 : Int32) (x4 : Int32), K (.inr (.inl (x3, x4))) → G ΛC x 5 [(0, .ref 45), (1, .int x1), (2, .int x2), (3, .int x3), (4, .int x4)] [] h) (hL15 : ∀ (x3 : Int32) (x5 : Int32), K (.inl (x3, x5)) → G ΛC x 15 [(0, .ref 45), (1, .int x1), (2, .int x2), (3, .int x3), (4, .int x4), (5, .int x5)] [] h) (T : Tt (f2_longestRun_15_s x1 x2 x3 x4 x5 h) K) : G ΛC x 15 [(0, .ref 45), (1, .int x1), (2, .int x2), (3, .int x3), (4, .int x4), (5, .int x5)] [] h := by
  refine g_iload (q := 5) C dX2_longestRun_15 rfl ?_
  refine g_bipush (v := 8) C dX2_longestRun_17 (by decide) ?_
  refine g_icmp_ge (tgt := 83) C dX2_longestRun_19 (by decide) (fun c2 => ?_) (fun c2 => ?_)
  · have T := tt_t T c2
    refine g_sub [0, 1, 2, 3, 4] rfl ?_
    exact k_f2_longestRun_83 C x1 x2 x3 x4 h hR hL5 (tt_map T)
  · have T := tt_f T c2
    refine g_iconst (v := 0) C dX2_longestRun_22 (by decide) ?_
    refine g_istore (L' := [(6, .int 0), (0, .ref 45), (1, .int x1), (2, .int x2), (3, .int x3), (4, .int x4), (5, .int x5)]) C dX2_longestRun_23 (by decide) rfl ?_
    refine g_sub [1, 2, 3, 4, 5, 6, 0] rfl ?_
    exact k_f2_longestRun_25 C x1 x2 x3 x4 x5 0 h hR hL5 hL15 T

noncomputable def f2_longestRun_15 (x1 : Int32) (x2 : Int32) (x3 : Int32) (x4 : Int32) (x5 : Int32) (h : Hp) : Option ((Int32 × Int32) ⊕ (Int32)) := lp (fun z : Int32 × Int32 => f2_longestRun_15_s x1 x2 z.1 x4 z.2 h) (x3, x5)
theorem k_f2_longestRun_15 {x : Mx} {l : Launch} {post0 : Option Value → Hp → Prop} (C : Cx ΛC x l RX2 cX2_longestRun rm_f2_longestRun (some .int) 7 post0) {K : (Int32 × Int32) ⊕ (Int32) → Prop} (x1 : Int32) (x2 : Int32) (x3 : Int32) (x4 : Int32) (x5 : Int32) (h : Hp) (hR : ∀ v : Int32, K (.inr v) → post0 (some (.int v)) h) (hL5 : ∀ (x3 : Int32) (x4 : Int32), K (.inl (x3, x4)) → G ΛC x 5 [(0, .ref 45), (1, .int x1), (2, .int x2), (3, .int x3), (4, .int x4)] [] h) (T : Tt (f2_longestRun_15 x1 x2 x3 x4 x5 h) K) : G ΛC x 15 [(0, .ref 45), (1, .int x1), (2, .int x2), (3, .int x3), (4, .int x4), (5, .int x5)] [] h :=
  lp_ind (f := fun z : Int32 × Int32 => f2_longestRun_15_s x1 x2 z.1 x4 z.2 h) (P := fun z : Int32 × Int32 => G ΛC x 15 [(0, .ref 45), (1, .int x1), (2, .int x2), (3, .int z.1), (4, .int x4), (5, .int z.2)] [] h) (K := K) (fun z T => k_f2_longestRun_15_s C (K := KS (fun z : Int32 × Int32 => G ΛC x 15 [(0, .ref 45), (1, .int x1), (2, .int x2), (3, .int z.1), (4, .int x4), (5, .int z.2)] [] h) K) x1 x2 z.1 x4 z.2 h hR hL5 (fun _ _ q => q) T) (x3, x5) T
noncomputable def f2_longestRun_5_s (x1 : Int32) (x2 : Int32) (x3 : Int32) (x4 : Int32) (h : Hp) : Option ((Int32 × Int32) ⊕ (Int32)) :=
  if 8 ≤ x4 then (some (.inr x3)) else (f2_longestRun_15 x1 x2 x3 x4 0 h)
set_option maxRecDepth 100000 in
set_option maxHeartbeats 4000000 in
theorem k_f2_longestRun_5_s {x : Mx} {l : Launch} {post0 : Option Value → Hp → Prop} (C : Cx ΛC x l RX2 cX2_longestRun rm_f2_longestRun (some .int) 7 post0) {K : (Int32 × Int32) ⊕ (Int32) → Prop} (x1 : Int32) (x2 : Int32) (x3 : Int32) (x4 : Int32) (h : Hp) (hR : ∀ v : Int32, K (.inr v) → post0 (some (.int v)) h) (hL5 : ∀ (x3 : Int32) (x4 : Int32), K (.inl (x3, x4)) → G ΛC x 5 [(0, .ref 45), (1, .int x1), (2, .int x2), (3, .int x3), (4, .int x4)] [] h) (T : Tt (f2_longestRun_5_s x1 x2 x3 x4 h) K) : G ΛC x 5 [(0, .ref 45), (1, .int x1), (2, .int x2), (3, .int x3), (4, .int x4)] [] h := by
  refine g_iload (q := 4) C dX2_longestRun_5 rfl ?_
  refine g_bipush (v := 8) C dX2_longestRun_7 (by decide) ?_
  refine g_icmp_ge (tgt := 89) C dX2_longestRun_9 (by decide) (fun c1 => ?_) (fun c1 => ?_)
  · have T := tt_t T c1
    refine g_iload_n (q := 3) C dX2_longestRun_89 rfl rfl ?_
    exact g_iret C dX2_longestRun_90 (hR _ (tt_some T))
  · have T := tt_f T c1
    refine g_iconst (v := 0) C dX2_longestRun_12 (by decide) ?_
    refine g_istore (L' := [(5, .int 0), (0, .ref 45), (1, .int x1), (2, .int x2), (3, .int x3), (4, .int x4)]) C dX2_longestRun_13 (by decide) rfl ?_
    refine g_sub [1, 2, 3, 4, 5, 0] rfl ?_
    exact k_f2_longestRun_15 C x1 x2 x3 x4 0 h hR hL5 T

noncomputable def f2_longestRun_5 (x1 : Int32) (x2 : Int32) (x3 : Int32) (x4 : Int32) (h : Hp) : Option (Int32) := lp (fun z : Int32 × Int32 => f2_longestRun_5_s x1 x2 z.1 z.2 h) (x3, x4)
theorem k_f2_longestRun_5 {x : Mx} {l : Launch} {post0 : Option Value → Hp → Prop} (C : Cx ΛC x l RX2 cX2_longestRun rm_f2_longestRun (some .int) 7 post0) {K : Int32 → Prop} (x1 : Int32) (x2 : Int32) (x3 : Int32) (x4 : Int32) (h : Hp) (hR : ∀ v : Int32, K v → post0 (some (.int v)) h) (T : Tt (f2_longestRun_5 x1 x2 x3 x4 h) K) : G ΛC x 5 [(0, .ref 45), (1, .int x1), (2, .int x2), (3, .int x3), (4, .int x4)] [] h :=
  lp_ind (f := fun z : Int32 × Int32 => f2_longestRun_5_s x1 x2 z.1 z.2 h) (P := fun z : Int32 × Int32 => G ΛC x 5 [(0, .ref 45), (1, .int x1), (2, .int x2), (3, .int z.1), (4, .int z.2)] [] h) (K := K) (fun z T => k_f2_longestRun_5_s C (K := KS (fun z : Int32 × Int32 => G ΛC x 5 [(0, .ref 45), (1, .int x1), (2, .int x2), (3, .int z.1), (4, .int z.2)] [] h) K) x1 x2 z.1 z.2 h hR (fun _ _ q => q) T) (x3, x4) T
noncomputable def f2_longestRun (x1 : Int32) (x2 : Int32) (h : Hp) : Option (Int32) :=
  f2_longestRun_5 x1 x2 0 0 h
set_option maxRecDepth 100000 in
set_option maxHeartbeats 4000000 in
theorem k_f2_longestRun {x : Mx} {l : Launch} {post0 : Option Value → Hp → Prop} (C : Cx ΛC x l RX2 cX2_longestRun rm_f2_longestRun (some .int) 7 post0) {K : Int32 → Prop} (x1 : Int32) (x2 : Int32) (h : Hp) (hR : ∀ v : Int32, K v → post0 (some (.int v)) h) (T : Tt (f2_longestRun x1 x2 h) K) : G ΛC x 0 [(0, .ref 45), (1, .int x1), (2, .int x2)] [] h := by
  refine g_iconst (v := 0) C dX2_longestRun_0 (by decide) ?_
  refine g_istore_n (L' := [(3, .int 0), (0, .ref 45), (1, .int x1), (2, .int x2)]) C dX2_longestRun_1 rfl (by decide) rfl ?_
  refine g_iconst (v := 0) C dX2_longestRun_2 (by decide) ?_
  refine g_istore (L' := [(4, .int 0), (3, .int 0), (0, .ref 45), (1, .int x1), (2, .int x2)]) C dX2_longestRun_3 (by decide) rfl ?_
  refine g_sub [2, 3, 4, 1, 0] rfl ?_
  exact k_f2_longestRun_5 C x1 x2 0 0 h hR T

theorem ok_f2_longestRun {l : Launch} {K : Int32 → Prop} (x1 : Int32) (x2 : Int32) (h : Hp) (T : Tt (f2_longestRun x1 x2 h) K) : Ok ΛC l yX2_longestRun cX2_longestRun 7 (some .int) rm_f2_longestRun [.ref 45, .int x1, .int x2] h (PIs K h) :=
  Ok.of RX2 rfl (by decide) ⟨rfl, rfl⟩ (Nat.le_of_ble_eq_true rfl) (fun x C => k_f2_longestRun C x1 x2 h (fun v q => ⟨v, rfl, rfl, q⟩) T)

abbrev rm_f3_add : Room := { frames := 0, cells := 0, slots := 0, locals := 0 }
noncomputable def f3_add (x1 : Int32) (x2 : Int32) (x3 : Int32) (h : Hp) : Option (Int32 × Hp) :=
  if h.1 39 5 < 24 then (gd (inb (h.1 39 5) 24) <| lt (wI h 40 (ix (h.1 39 5)) x1) fun h3 => gd (inb (h3.1 39 5) 24) <| lt (wI h3 41 (ix (h3.1 39 5)) x2) fun h5 => gd (inb (h5.1 39 5) 24) <| gd (bz x3) <| lt (wI h5 42 (ix (h5.1 39 5)) x3) fun h8 => gd (inb (h8.1 39 5) 24) <| lt (wI h8 43 (ix (h8.1 39 5)) 0) fun h10 => lt (wI h10 39 5 ((h10.1 39 5) + 1)) fun h11 => some ((h11.1 39 5) - 1, h11)) else (some ((-1), h))
set_option maxRecDepth 100000 in
set_option maxHeartbeats 4000000 in
theorem k_f3_add {x : Mx} {l : Launch} {post0 : Option Value → Hp → Prop} (C : Cx ΛC x l RX3 cX3_add rm_f3_add (some .int) 4 post0) {K : Int32 × Hp → Prop} (x1 : Int32) (x2 : Int32) (x3 : Int32) (h : Hp) (hR : ∀ (v : Int32) (h : Hp), K (v, h) → post0 (some (.int v)) h) (T : Tt (f3_add x1 x2 x3 h) K) : G ΛC x 0 [(0, .ref 39), (1, .int x1), (2, .int x2), (3, .int x3)] [] h := by
  refine g_aload_n (q := 0) C dX3_add_0 rfl rfl ?_
  refine g_getI (k := 5) C dX3_add_1 (hpC rfl rfl) rfl fl_X3_32 rfl ?_
  refine g_bipush (v := 24) C dX3_add_4 (by decide) ?_
  refine g_icmp_lt (tgt := 11) C dX3_add_6 (by decide) (fun c1 => ?_) (fun c1 => ?_)
  · have T := tt_t T c1
    refine g_aload_n (q := 0) C dX3_add_11 rfl rfl ?_
    refine g_getF (k := 0) (q := 40) C dX3_add_12 (hpC rfl rfl) rfl fl_X3_9 rfl rfl ?_
    refine g_aload_n (q := 0) C dX3_add_15 rfl rfl ?_
    refine g_getI (k := 5) C dX3_add_16 (hpC rfl rfl) rfl fl_X3_32 rfl ?_
    refine g_iload_n (q := 1) C dX3_add_19 rfl rfl ?_
    obtain ⟨g2, T⟩ := tt_gd T
    obtain ⟨h3, eh3, T⟩ := tt_lt T
    refine g_iast C dX3_add_20 (hpC rfl rfl) rfl (inb_of rfl g2) eh3 ?_
    refine g_aload_n (q := 0) C dX3_add_21 rfl rfl ?_
    refine g_getF (k := 1) (q := 41) C dX3_add_22 (hpC rfl rfl) rfl fl_X3_15 rfl rfl ?_
    refine g_aload_n (q := 0) C dX3_add_25 rfl rfl ?_
    refine g_getI (k := 5) C dX3_add_26 (hpC rfl rfl) rfl fl_X3_32 rfl ?_
    refine g_iload_n (q := 2) C dX3_add_29 rfl rfl ?_
    obtain ⟨g4, T⟩ := tt_gd T
    obtain ⟨h5, eh5, T⟩ := tt_lt T
    refine g_iast C dX3_add_30 (hpC rfl rfl) rfl (inb_of rfl g4) eh5 ?_
    refine g_aload_n (q := 0) C dX3_add_31 rfl rfl ?_
    refine g_getF (k := 2) (q := 42) C dX3_add_32 (hpC rfl rfl) rfl fl_X3_18 rfl rfl ?_
    refine g_aload_n (q := 0) C dX3_add_35 rfl rfl ?_
    refine g_getI (k := 5) C dX3_add_36 (hpC rfl rfl) rfl fl_X3_32 rfl ?_
    refine g_iload_n (q := 3) C dX3_add_39 rfl rfl ?_
    obtain ⟨g6, T⟩ := tt_gd T
    obtain ⟨g7, T⟩ := tt_gd T
    obtain ⟨h8, eh8, T⟩ := tt_lt T
    refine g_zast C dX3_add_40 (hpC rfl rfl) rfl (inb_of rfl g6) (bz_or g7) eh8 ?_
    refine g_aload_n (q := 0) C dX3_add_41 rfl rfl ?_
    refine g_getF (k := 3) (q := 43) C dX3_add_42 (hpC rfl rfl) rfl fl_X3_22 rfl rfl ?_
    refine g_aload_n (q := 0) C dX3_add_45 rfl rfl ?_
    refine g_getI (k := 5) C dX3_add_46 (hpC rfl rfl) rfl fl_X3_32 rfl ?_
    refine g_iconst (v := 0) C dX3_add_49 (by decide) ?_
    obtain ⟨g9, T⟩ := tt_gd T
    obtain ⟨h10, eh10, T⟩ := tt_lt T
    refine g_zast C dX3_add_50 (hpC rfl rfl) rfl (inb_of rfl g9) (Or.inl rfl) eh10 ?_
    refine g_aload_n (q := 0) C dX3_add_51 rfl rfl ?_
    refine g_dup C dX3_add_52 rfl ?_
    refine g_getI (k := 5) C dX3_add_53 (hpC rfl rfl) rfl fl_X3_32 rfl ?_
    refine g_iconst (v := 1) C dX3_add_56 (by decide) ?_
    refine g_iadd C dX3_add_57 ?_
    obtain ⟨h11, eh11, T⟩ := tt_lt T
    refine g_putI (k := 5) C dX3_add_58 (hpC rfl rfl) rfl fp_X3_32 rfl eh11 ?_
    refine g_aload_n (q := 0) C dX3_add_61 rfl rfl ?_
    refine g_getI (k := 5) C dX3_add_62 (hpC rfl rfl) rfl fl_X3_32 rfl ?_
    refine g_iconst (v := 1) C dX3_add_65 (by decide) ?_
    refine g_isub C dX3_add_66 ?_
    exact g_iret C dX3_add_67 (hR _ _ (tt_some T))
  · have T := tt_f T c1
    refine g_iconst (v := (-1)) C dX3_add_9 (by decide) ?_
    exact g_iret C dX3_add_10 (hR _ _ (tt_some T))

theorem ok_f3_add {l : Launch} {K : Int32 × Hp → Prop} (x1 : Int32) (x2 : Int32) (x3 : Int32) (h : Hp) (T : Tt (f3_add x1 x2 x3 h) K) : Ok ΛC l yX3_add cX3_add 4 (some .int) rm_f3_add [.ref 39, .int x1, .int x2, .int x3] h (PIw K) :=
  Ok.of RX3 rfl (by decide) ⟨rfl, rfl⟩ (Nat.le_of_ble_eq_true rfl) (fun x C => k_f3_add C x1 x2 x3 h (fun v _ q => ⟨v, rfl, q⟩) T)

abbrev rm_f3_addStrike : Room := { frames := 1, cells := 0, slots := 0, locals := 23 }
noncomputable def f3_addStrike (x1 : Int32) (h : Hp) : Option (Int32 × Hp) :=
  (f3_add x1 0 1 h).bind fun (r1, h2) => if r1 = (-1) then (some (r1, h2)) else (gd (inb r1 24) <| lt (wI h2 43 (ix r1) 1) fun h5 => some (r1, h5))
set_option maxRecDepth 100000 in
set_option maxHeartbeats 4000000 in
theorem k_f3_addStrike {x : Mx} {l : Launch} {post0 : Option Value → Hp → Prop} (C : Cx ΛC x l RX3 cX3_addStrike rm_f3_addStrike (some .int) 3 post0) {K : Int32 × Hp → Prop} (x1 : Int32) (h : Hp) (hR : ∀ (v : Int32) (h : Hp), K (v, h) → post0 (some (.int v)) h) (T : Tt (f3_addStrike x1 h) K) : G ΛC x 0 [(0, .ref 39), (1, .int x1)] [] h := by
  refine g_aload_n (q := 0) C dX3_addStrike_0 rfl rfl ?_
  refine g_iload_n (q := 1) C dX3_addStrike_1 rfl rfl ?_
  refine g_iconst (v := 0) C dX3_addStrike_2 (by decide) ?_
  refine g_iconst (v := 1) C dX3_addStrike_3 (by decide) ?_
  refine g_callV (p := 39) (As := [.int x1, .int 0, .int 1]) C dX3_addStrike_4 ml_X3_35 yv_f3_add ⟨rfl, rfl⟩ ⟨Nat.le_of_ble_eq_true rfl, Nat.le_of_ble_eq_true rfl⟩ (hpC rfl rfl) rfl rfl rfl (Nat.le_of_ble_eq_true rfl) (ok_f3_add x1 0 1 h (tt_bind T)) ?_
  rintro _ h2 ⟨r1, rfl, T⟩
  show G ΛC x 7 [(0, .ref 39), (1, .int x1)] [.int r1] h2
  refine g_istore_n (L' := [(2, .int r1), (0, .ref 39), (1, .int x1)]) C dX3_addStrike_7 rfl (by decide) rfl ?_
  refine g_iload_n (q := 0) C dX3_addStrike_8 rfl rfl ?_
  refine g_iconst (v := (-1)) C dX3_addStrike_9 (by decide) ?_
  refine g_icmp_eq (tgt := 20) C dX3_addStrike_10 (by decide) (fun c3 => ?_) (fun c3 => ?_)
  · have T := tt_t T c3
    refine g_iload_n (q := 0) C dX3_addStrike_20 rfl rfl ?_
    exact g_iret C dX3_addStrike_21 (hR _ _ (tt_some T))
  · have T := tt_f T c3
    refine g_aload_n (q := 1) C dX3_addStrike_13 rfl rfl ?_
    refine g_getF (k := 3) (q := 43) C dX3_addStrike_14 (hpC rfl rfl) rfl fl_X3_22 rfl rfl ?_
    refine g_iload_n (q := 0) C dX3_addStrike_17 rfl rfl ?_
    refine g_iconst (v := 1) C dX3_addStrike_18 (by decide) ?_
    obtain ⟨g4, T⟩ := tt_gd T
    obtain ⟨h5, eh5, T⟩ := tt_lt T
    refine g_zast C dX3_addStrike_19 (hpC rfl rfl) rfl (inb_of rfl g4) (Or.inr rfl) eh5 ?_
    refine g_iload_n (q := 0) C dX3_addStrike_20 rfl rfl ?_
    exact g_iret C dX3_addStrike_21 (hR _ _ (tt_some T))

theorem ok_f3_addStrike {l : Launch} {K : Int32 × Hp → Prop} (x1 : Int32) (h : Hp) (T : Tt (f3_addStrike x1 h) K) : Ok ΛC l yX3_addStrike cX3_addStrike 3 (some .int) rm_f3_addStrike [.ref 39, .int x1] h (PIw K) :=
  Ok.of RX3 rfl (by decide) ⟨rfl, rfl⟩ (Nat.le_of_ble_eq_true rfl) (fun x C => k_f3_addStrike C x1 h (fun v _ q => ⟨v, rfl, q⟩) T)

abbrev rm_f1_takeLatest : Room := { frames := 0, cells := 0, slots := 0, locals := 0 }
noncomputable def f1_takeLatest (x1 : Nat) (h : Hp) : Option (Hp) :=
  if h.1 34 4 ≤ 0 then (some (h)) else (lt (wI h 34 4 ((h.1 34 4) - 1)) fun h2 => gd (inb (h2.1 34 4) 20) <| gd (inb (h2.1 35 (ix (h2.1 34 4))) 6) <| lt (x1 + 1 + 1 + 2 * ix (h2.1 35 (ix (h2.1 34 4)))) fun p5 => gd (inb (h2.1 34 4) 20) <| lt (wI h2 p5 5 (h2.1 36 (ix (h2.1 34 4)))) fun h7 => gd (inb (h7.1 34 4) 20) <| lt (wI h7 p5 9 (h7.1 37 (ix (h7.1 34 4)))) fun h9 => gd (inb (h9.1 34 4) 20) <| gd (bz (h9.1 38 (ix (h9.1 34 4)))) <| lt (wI h9 p5 10 (h9.1 38 (ix (h9.1 34 4)))) fun h12 => some (h12))
set_option maxRecDepth 100000 in
set_option maxHeartbeats 4000000 in
theorem k_f1_takeLatest {x : Mx} {l : Launch} {post0 : Option Value → Hp → Prop} (C : Cx ΛC x l RX1 cX1_takeLatest rm_f1_takeLatest none 3 post0) {K : Hp → Prop} (x1 : Nat) (kx1 : kdC x1 = 9) (h : Hp) (hR : ∀ h : Hp, K h → post0 none h) (T : Tt (f1_takeLatest x1 h) K) : G ΛC x 0 [(0, .ref 34), (1, .ref x1)] [] h := by
  refine g_aload_n (q := 0) C dX1_takeLatest_0 rfl rfl ?_
  refine g_getI (k := 4) C dX1_takeLatest_1 (hpC rfl rfl) rfl fl_X1_25 rfl ?_
  refine g_if_le (tgt := 71) C dX1_takeLatest_4 (by decide) (fun c1 => ?_) (fun c1 => ?_)
  · have T := tt_t T c1
    exact g_vret C dX1_takeLatest_71 (hR _ (tt_some T))
  · have T := tt_f T c1
    refine g_aload_n (q := 0) C dX1_takeLatest_7 rfl rfl ?_
    refine g_dup C dX1_takeLatest_8 rfl ?_
    refine g_getI (k := 4) C dX1_takeLatest_9 (hpC rfl rfl) rfl fl_X1_25 rfl ?_
    refine g_iconst (v := 1) C dX1_takeLatest_12 (by decide) ?_
    refine g_isub C dX1_takeLatest_13 ?_
    obtain ⟨h2, eh2, T⟩ := tt_lt T
    refine g_putI (k := 4) C dX1_takeLatest_14 (hpC rfl rfl) rfl fp_X1_25 rfl eh2 ?_
    refine g_aload_n (q := 1) C dX1_takeLatest_17 rfl rfl ?_
    refine g_getF (k := 0) (q := x1 + 1) C dX1_takeLatest_18 (hpC kx1 rfl) kx1 fl_X1_42 rfl rfl ?_
    refine g_aload_n (q := 0) C dX1_takeLatest_21 rfl rfl ?_
    refine g_getF (k := 0) (q := 35) C dX1_takeLatest_22 (hpC rfl rfl) rfl fl_X1_9 rfl rfl ?_
    refine g_aload_n (q := 0) C dX1_takeLatest_25 rfl rfl ?_
    refine g_getI (k := 4) C dX1_takeLatest_26 (hpC rfl rfl) rfl fl_X1_25 rfl ?_
    obtain ⟨g3, T⟩ := tt_gd T
    refine g_iald C dX1_takeLatest_29 (hpC rfl rfl) rfl (inb_of rfl g3) ?_
    obtain ⟨g4, T⟩ := tt_gd T
    refine g_aald (q := x1 + 1 + 1 + 2 * ix (h2.1 35 (ix (h2.1 34 4)))) C dX1_takeLatest_30 (hpC (kf_9_0 kx1) rfl) (kf_9_0 kx1) (inb_of (lf_9_0 kx1) g4) rfl ?_
    obtain ⟨p5, ep5, T⟩ := tt_lt T
    have kp5 : kdC p5 = 0 := by rw [ep5]; exact kboxC (kf_9_0 kx1) g4
    refine g_nameR ep5 ?_
    refine g_astore_n (L' := [(2, .ref p5), (0, .ref 34), (1, .ref x1)]) C dX1_takeLatest_31 rfl (by decide) rfl ?_
    refine g_aload_n (q := 0) C dX1_takeLatest_32 rfl rfl ?_
    refine g_aload_n (q := 1) C dX1_takeLatest_33 rfl rfl ?_
    refine g_getF (k := 1) (q := 36) C dX1_takeLatest_34 (hpC rfl rfl) rfl fl_X1_15 rfl rfl ?_
    refine g_aload_n (q := 1) C dX1_takeLatest_37 rfl rfl ?_
    refine g_getI (k := 4) C dX1_takeLatest_38 (hpC rfl rfl) rfl fl_X1_25 rfl ?_
    obtain ⟨g6, T⟩ := tt_gd T
    refine g_iald C dX1_takeLatest_41 (hpC rfl rfl) rfl (inb_of rfl g6) ?_
    obtain ⟨h7, eh7, T⟩ := tt_lt T
    refine g_putI (k := 5) C dX1_takeLatest_42 (hpC kp5 rfl) kp5 fp_X1_32 rfl eh7 ?_
    refine g_aload_n (q := 0) C dX1_takeLatest_45 rfl rfl ?_
    refine g_aload_n (q := 1) C dX1_takeLatest_46 rfl rfl ?_
    refine g_getF (k := 2) (q := 37) C dX1_takeLatest_47 (hpC rfl rfl) rfl fl_X1_18 rfl rfl ?_
    refine g_aload_n (q := 1) C dX1_takeLatest_50 rfl rfl ?_
    refine g_getI (k := 4) C dX1_takeLatest_51 (hpC rfl rfl) rfl fl_X1_25 rfl ?_
    obtain ⟨g8, T⟩ := tt_gd T
    refine g_iald C dX1_takeLatest_54 (hpC rfl rfl) rfl (inb_of rfl g8) ?_
    obtain ⟨h9, eh9, T⟩ := tt_lt T
    refine g_putI (k := 9) C dX1_takeLatest_55 (hpC kp5 rfl) kp5 fp_X1_37 rfl eh9 ?_
    refine g_aload_n (q := 0) C dX1_takeLatest_58 rfl rfl ?_
    refine g_aload_n (q := 1) C dX1_takeLatest_59 rfl rfl ?_
    refine g_getF (k := 3) (q := 38) C dX1_takeLatest_60 (hpC rfl rfl) rfl fl_X1_21 rfl rfl ?_
    refine g_aload_n (q := 1) C dX1_takeLatest_63 rfl rfl ?_
    refine g_getI (k := 4) C dX1_takeLatest_64 (hpC rfl rfl) rfl fl_X1_25 rfl ?_
    obtain ⟨g10, T⟩ := tt_gd T
    refine g_zald C dX1_takeLatest_67 (hpC rfl rfl) rfl (inb_of rfl g10) ?_
    obtain ⟨g11, T⟩ := tt_gd T
    obtain ⟨h12, eh12, T⟩ := tt_lt T
    refine g_putZ (k := 10) C dX1_takeLatest_68 (hpC kp5 rfl) kp5 fp_X1_39 rfl (bz_or g11) eh12 ?_
    exact g_vret C dX1_takeLatest_71 (hR _ (tt_some T))

theorem ok_f1_takeLatest {l : Launch} {K : Hp → Prop} (x1 : Nat) (kx1 : kdC x1 = 9) (h : Hp) (T : Tt (f1_takeLatest x1 h) K) : Ok ΛC l yX1_takeLatest cX1_takeLatest 3 none rm_f1_takeLatest [.ref 34, .ref x1] h (PVw K) :=
  Ok.of RX1 rfl (by decide) ⟨rfl, rfl⟩ (Nat.le_of_ble_eq_true rfl) (fun x C => k_f1_takeLatest C x1 kx1 h (fun _ q => ⟨rfl, q⟩) T)

abbrev rm_f9_copyOf : Room := { frames := 2, cells := 0, slots := 0, locals := 39 }
noncomputable def f9_copyOf_39 (x0 : Nat) (x1 : Nat) (h : Hp) : Option (Hp) :=
  lt (wI h x0 2 (h.1 x1 2)) fun h3 => lt (wI h3 x0 3 (h3.1 x1 3)) fun h4 => lt (wI h4 x0 4 (h4.1 x1 4)) fun h5 => some (h5)
set_option maxRecDepth 100000 in
set_option maxHeartbeats 4000000 in
theorem k_f9_copyOf_39 {x : Mx} {l : Launch} {post0 : Option Value → Hp → Prop} (C : Cx ΛC x l RX9 cX9_copyOf rm_f9_copyOf none 3 post0) {K : Hp → Prop} (x0 : Nat) (x1 : Nat) (kx0 : kdC x0 = 9) (kx1 : kdC x1 = 9) (h : Hp) (hR : ∀ h : Hp, K h → post0 none h) (T : Tt (f9_copyOf_39 x0 x1 h) K) : G ΛC x 39 [(0, .ref x0), (1, .ref x1)] [] h := by
  refine g_aload_n (q := 0) C dX9_copyOf_39 rfl rfl ?_
  refine g_aload_n (q := 1) C dX9_copyOf_40 rfl rfl ?_
  refine g_getI (k := 2) C dX9_copyOf_41 (hpC kx1 rfl) kx1 fl_X9_30 rfl ?_
  obtain ⟨h3, eh3, T⟩ := tt_lt T
  refine g_putI (k := 2) C dX9_copyOf_44 (hpC kx0 rfl) kx0 fp_X9_30 rfl eh3 ?_
  refine g_aload_n (q := 0) C dX9_copyOf_47 rfl rfl ?_
  refine g_aload_n (q := 1) C dX9_copyOf_48 rfl rfl ?_
  refine g_getI (k := 3) C dX9_copyOf_49 (hpC kx1 rfl) kx1 fl_X9_36 rfl ?_
  obtain ⟨h4, eh4, T⟩ := tt_lt T
  refine g_putI (k := 3) C dX9_copyOf_52 (hpC kx0 rfl) kx0 fp_X9_36 rfl eh4 ?_
  refine g_aload_n (q := 0) C dX9_copyOf_55 rfl rfl ?_
  refine g_aload_n (q := 1) C dX9_copyOf_56 rfl rfl ?_
  refine g_getI (k := 4) C dX9_copyOf_57 (hpC kx1 rfl) kx1 fl_X9_39 rfl ?_
  obtain ⟨h5, eh5, T⟩ := tt_lt T
  refine g_putI (k := 4) C dX9_copyOf_60 (hpC kx0 rfl) kx0 fp_X9_39 rfl eh5 ?_
  exact g_vret C dX9_copyOf_63 (hR _ (tt_some T))

noncomputable def f9_copyOf_10_s (x0 : Nat) (x1 : Nat) (x2 : Int32) (h : Hp) : Option ((Int32 × Hp) ⊕ (Hp)) :=
  if h.1 x0 1 ≤ x2 then ((f9_copyOf_39 x0 x1 h).map (fun z => .inr (z))) else (gd (inb x2 6) <| gd (inb x2 6) <| (f0_copyOf (x0 + 1 + 1 + 2 * ix x2) (x1 + 1 + 1 + 2 * ix x2) h).bind fun h8 => some (.inl (x2 + 1, h8)))
set_option maxRecDepth 100000 in
set_option maxHeartbeats 4000000 in
theorem k_f9_copyOf_10_s {x : Mx} {l : Launch} {post0 : Option Value → Hp → Prop} (C : Cx ΛC x l RX9 cX9_copyOf rm_f9_copyOf none 3 post0) {K : (Int32 × Hp) ⊕ (Hp) → Prop} (x0 : Nat) (x1 : Nat) (x2 : Int32) (kx0 : kdC x0 = 9) (kx1 : kdC x1 = 9) (h : Hp) (hR : ∀ h : Hp, K (.inr h) → post0 none h) (hL10 : ∀ (x2 : Int32) (h : Hp), K (.inl (x2, h)) → G ΛC x 10 [(0, .ref x0), (1, .ref x1), (2, .int x2)] [] h) (T : Tt (f9_copyOf_10_s x0 x1 x2 h) K) : G ΛC x 10 [(0, .ref x0), (1, .ref x1), (2, .int x2)] [] h := by
  refine g_iload_n (q := 2) C dX9_copyOf_10 rfl rfl ?_
  refine g_aload_n (q := 0) C dX9_copyOf_11 rfl rfl ?_
  refine g_getI (k := 1) C dX9_copyOf_12 (hpC kx0 rfl) kx0 fl_X9_24 rfl ?_
  refine g_icmp_ge (tgt := 39) C dX9_copyOf_15 (by decide) (fun c2 => ?_) (fun c2 => ?_)
  · have T := tt_t T c2
    refine g_sub [0, 1] rfl ?_
    exact k_f9_copyOf_39 C x0 x1 kx0 kx1 h hR (tt_map T)
  · have T := tt_f T c2
    refine g_aload_n (q := 0) C dX9_copyOf_18 rfl rfl ?_
    refine g_getF (k := 0) (q := x0 + 1) C dX9_copyOf_19 (hpC kx0 rfl) kx0 fl_X9_11 rfl rfl ?_
    refine g_iload_n (q := 2) C dX9_copyOf_22 rfl rfl ?_
    obtain ⟨g6, T⟩ := tt_gd T
    refine g_aald (q := x0 + 1 + 1 + 2 * ix x2) C dX9_copyOf_23 (hpC (kf_9_0 kx0) rfl) (kf_9_0 kx0) (inb_of (lf_9_0 kx0) g6) rfl ?_
    refine g_aload_n (q := 1) C dX9_copyOf_24 rfl rfl ?_
    refine g_getF (k := 0) (q := x1 + 1) C dX9_copyOf_25 (hpC kx1 rfl) kx1 fl_X9_11 rfl rfl ?_
    refine g_iload_n (q := 2) C dX9_copyOf_28 rfl rfl ?_
    obtain ⟨g7, T⟩ := tt_gd T
    refine g_aald (q := x1 + 1 + 1 + 2 * ix x2) C dX9_copyOf_29 (hpC (kf_9_0 kx1) rfl) (kf_9_0 kx1) (inb_of (lf_9_0 kx1) g7) rfl ?_
    refine g_callV (p := (x0 + 1 + 1 + 2 * ix x2)) (As := [.ref (x1 + 1 + 1 + 2 * ix x2)]) C dX9_copyOf_30 ml_X9_26 yv_f0_copyOf ⟨rfl, rfl⟩ ⟨Nat.le_of_ble_eq_true rfl, Nat.le_of_ble_eq_true rfl⟩ (hpC (kboxC (kf_9_0 kx0) g6) rfl) (kboxC (kf_9_0 kx0) g6) rfl rfl (Nat.le_of_ble_eq_true rfl) (ok_f0_copyOf (x0 + 1 + 1 + 2 * ix x2) (x1 + 1 + 1 + 2 * ix x2) (kboxC (kf_9_0 kx0) g6) (kboxC (kf_9_0 kx1) g7) h (tt_bind T)) ?_
    rintro _ h8 ⟨rfl, T⟩
    show G ΛC x 33 [(0, .ref x0), (1, .ref x1), (2, .int x2)] [] h8
    refine g_iinc (v := x2 + 1) (q := 2) (L' := [(2, .int (x2 + 1)), (0, .ref x0), (1, .ref x1)]) C dX9_copyOf_33 rfl (by first | rfl | exact congrArg _ (by decide)) (by decide) rfl ?_
    refine g_goto (tgt := 10) C dX9_copyOf_36 (by decide) ?_
    refine g_sub [1, 2, 0] rfl ?_
    exact hL10 _ _ (tt_some T)

noncomputable def f9_copyOf_10 (x0 : Nat) (x1 : Nat) (x2 : Int32) (h : Hp) : Option (Hp) := lp (fun z : Int32 × Hp => f9_copyOf_10_s x0 x1 z.1 z.2) (x2, h)
theorem k_f9_copyOf_10 {x : Mx} {l : Launch} {post0 : Option Value → Hp → Prop} (C : Cx ΛC x l RX9 cX9_copyOf rm_f9_copyOf none 3 post0) {K : Hp → Prop} (x0 : Nat) (x1 : Nat) (x2 : Int32) (kx0 : kdC x0 = 9) (kx1 : kdC x1 = 9) (h : Hp) (hR : ∀ h : Hp, K h → post0 none h) (T : Tt (f9_copyOf_10 x0 x1 x2 h) K) : G ΛC x 10 [(0, .ref x0), (1, .ref x1), (2, .int x2)] [] h :=
  lp_ind (f := fun z : Int32 × Hp => f9_copyOf_10_s x0 x1 z.1 z.2) (P := fun z : Int32 × Hp => G ΛC x 10 [(0, .ref x0), (1, .ref x1), (2, .int z.1)] [] z.2) (K := K) (fun z T => k_f9_copyOf_10_s C (K := KS (fun z : Int32 × Hp => G ΛC x 10 [(0, .ref x0), (1, .ref x1), (2, .int z.1)] [] z.2) K) x0 x1 z.1 kx0 kx1 z.2 hR (fun _ _ q => q) T) (x2, h) T
noncomputable def f9_copyOf (x0 : Nat) (x1 : Nat) (h : Hp) : Option (Hp) :=
  lt (wI h x0 1 (h.1 x1 1)) fun h1 => f9_copyOf_10 x0 x1 0 h1
set_option maxRecDepth 100000 in
set_option maxHeartbeats 4000000 in
theorem k_f9_copyOf {x : Mx} {l : Launch} {post0 : Option Value → Hp → Prop} (C : Cx ΛC x l RX9 cX9_copyOf rm_f9_copyOf none 3 post0) {K : Hp → Prop} (x0 : Nat) (x1 : Nat) (kx0 : kdC x0 = 9) (kx1 : kdC x1 = 9) (h : Hp) (hR : ∀ h : Hp, K h → post0 none h) (T : Tt (f9_copyOf x0 x1 h) K) : G ΛC x 0 [(0, .ref x0), (1, .ref x1)] [] h := by
  refine g_aload_n (q := 0) C dX9_copyOf_0 rfl rfl ?_
  refine g_aload_n (q := 1) C dX9_copyOf_1 rfl rfl ?_
  refine g_getI (k := 1) C dX9_copyOf_2 (hpC kx1 rfl) kx1 fl_X9_24 rfl ?_
  obtain ⟨h1, eh1, T⟩ := tt_lt T
  refine g_putI (k := 1) C dX9_copyOf_5 (hpC kx0 rfl) kx0 fp_X9_24 rfl eh1 ?_
  refine g_iconst (v := 0) C dX9_copyOf_8 (by decide) ?_
  refine g_istore_n (L' := [(2, .int 0), (0, .ref x0), (1, .ref x1)]) C dX9_copyOf_9 rfl (by decide) rfl ?_
  refine g_sub [1, 2, 0] rfl ?_
  exact k_f9_copyOf_10 C x0 x1 0 kx0 kx1 h1 hR T

theorem ok_f9_copyOf {l : Launch} {K : Hp → Prop} (x0 : Nat) (x1 : Nat) (kx0 : kdC x0 = 9) (kx1 : kdC x1 = 9) (h : Hp) (T : Tt (f9_copyOf x0 x1 h) K) : Ok ΛC l yX9_copyOf cX9_copyOf 3 none rm_f9_copyOf [.ref x0, .ref x1] h (PVw K) :=
  Ok.of RX9 rfl (by decide) ⟨rfl, rfl⟩ (Nat.le_of_ble_eq_true rfl) (fun x C => k_f9_copyOf C x0 x1 kx0 kx1 h (fun _ q => ⟨rfl, q⟩) T)
