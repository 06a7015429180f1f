abbrev rm_f11_feed : Room := { frames := 1, cells := 0, slots := 0, locals := 22 }
noncomputable def f11_feed (x1 : Int32) (x2 : Int32) (x3 : Int32) (x4 : Int32) (x5 : Int32) (h : Hp) : Option (Int32 × Hp) :=
  if (h.1 1 1) + 20 ≤ 700 then ((f8_put x1 h).bind fun h2 => (f8_put x2 h2).bind fun h3 => (f8_put x3 h3).bind fun h4 => (f8_put x4 h4).bind fun h5 => (f8_put x5 h5).bind fun h6 => some (h6.1 1 1, h6)) else (some ((-1), h))
set_option maxRecDepth 100000 in
set_option maxHeartbeats 4000000 in
theorem k_f11_feed {x : Mx} {l : Launch} {post0 : Option Value → Hp → Prop} (C : Cx ΛC x l RX11 cX11_feed rm_f11_feed (some .int) 6 post0) {K : Int32 × Hp → Prop} (x1 : Int32) (x2 : Int32) (x3 : Int32) (x4 : Int32) (x5 : Int32) (h : Hp) (hR : ∀ (v : Int32) (h : Hp), K (v, h) → post0 (some (.int v)) h) (T : Tt (f11_feed x1 x2 x3 x4 x5 h) K) : G ΛC x 0 [(0, .ref 0), (1, .int x1), (2, .int x2), (3, .int x3), (4, .int x4), (5, .int x5)] [] h := by
  refine g_aload_n (q := 0) C dX11_feed_0 rfl rfl ?_
  refine g_getF (k := 0) (q := 1) C dX11_feed_1 (hpC rfl rfl) rfl fl_X11_12 rfl rfl ?_
  refine g_getI (k := 1) C dX11_feed_4 (hpC rfl rfl) rfl fl_X11_93 rfl ?_
  refine g_bipush (v := 20) C dX11_feed_7 (by decide) ?_
  refine g_iadd C dX11_feed_9 ?_
  refine g_sipush (v := 700) C dX11_feed_10 (by decide) ?_
  refine g_icmp_le (tgt := 18) C dX11_feed_13 (by decide) (fun c1 => ?_) (fun c1 => ?_)
  · have T := tt_t T c1
    refine g_aload_n (q := 0) C dX11_feed_18 rfl rfl ?_
    refine g_getF (k := 0) (q := 1) C dX11_feed_19 (hpC rfl rfl) rfl fl_X11_12 rfl rfl ?_
    refine g_iload_n (q := 1) C dX11_feed_22 rfl rfl ?_
    refine g_callV (p := 1) (As := [.int x1]) C dX11_feed_23 ml_X11_97 yv_f8_put ⟨rfl, rfl⟩ ⟨Nat.le_of_ble_eq_true rfl, Nat.le_of_ble_eq_true rfl⟩ (hpC rfl rfl) rfl rfl rfl (Nat.le_of_ble_eq_true rfl) (ok_f8_put x1 h (tt_bind T)) ?_
    rintro _ h2 ⟨rfl, T⟩
    show G ΛC x 26 [(0, .ref 0), (1, .int x1), (2, .int x2), (3, .int x3), (4, .int x4), (5, .int x5)] [] h2
    refine g_aload_n (q := 0) C dX11_feed_26 rfl rfl ?_
    refine g_getF (k := 0) (q := 1) C dX11_feed_27 (hpC rfl rfl) rfl fl_X11_12 rfl rfl ?_
    refine g_iload_n (q := 2) C dX11_feed_30 rfl rfl ?_
    refine g_callV (p := 1) (As := [.int x2]) C dX11_feed_31 ml_X11_97 yv_f8_put ⟨rfl, rfl⟩ ⟨Nat.le_of_ble_eq_true rfl, Nat.le_of_ble_eq_true rfl⟩ (hpC rfl rfl) rfl rfl rfl (Nat.le_of_ble_eq_true rfl) (ok_f8_put x2 h2 (tt_bind T)) ?_
    rintro _ h3 ⟨rfl, T⟩
    show G ΛC x 34 [(0, .ref 0), (1, .int x1), (2, .int x2), (3, .int x3), (4, .int x4), (5, .int x5)] [] h3
    refine g_aload_n (q := 0) C dX11_feed_34 rfl rfl ?_
    refine g_getF (k := 0) (q := 1) C dX11_feed_35 (hpC rfl rfl) rfl fl_X11_12 rfl rfl ?_
    refine g_iload_n (q := 3) C dX11_feed_38 rfl rfl ?_
    refine g_callV (p := 1) (As := [.int x3]) C dX11_feed_39 ml_X11_97 yv_f8_put ⟨rfl, rfl⟩ ⟨Nat.le_of_ble_eq_true rfl, Nat.le_of_ble_eq_true rfl⟩ (hpC rfl rfl) rfl rfl rfl (Nat.le_of_ble_eq_true rfl) (ok_f8_put x3 h3 (tt_bind T)) ?_
    rintro _ h4 ⟨rfl, T⟩
    show G ΛC x 42 [(0, .ref 0), (1, .int x1), (2, .int x2), (3, .int x3), (4, .int x4), (5, .int x5)] [] h4
    refine g_aload_n (q := 0) C dX11_feed_42 rfl rfl ?_
    refine g_getF (k := 0) (q := 1) C dX11_feed_43 (hpC rfl rfl) rfl fl_X11_12 rfl rfl ?_
    refine g_iload (q := 4) C dX11_feed_46 rfl ?_
    refine g_callV (p := 1) (As := [.int x4]) C dX11_feed_48 ml_X11_97 yv_f8_put ⟨rfl, rfl⟩ ⟨Nat.le_of_ble_eq_true rfl, Nat.le_of_ble_eq_true rfl⟩ (hpC rfl rfl) rfl rfl rfl (Nat.le_of_ble_eq_true rfl) (ok_f8_put x4 h4 (tt_bind T)) ?_
    rintro _ h5 ⟨rfl, T⟩
    show G ΛC x 51 [(0, .ref 0), (1, .int x1), (2, .int x2), (3, .int x3), (4, .int x4), (5, .int x5)] [] h5
    refine g_aload_n (q := 0) C dX11_feed_51 rfl rfl ?_
    refine g_getF (k := 0) (q := 1) C dX11_feed_52 (hpC rfl rfl) rfl fl_X11_12 rfl rfl ?_
    refine g_iload (q := 5) C dX11_feed_55 rfl ?_
    refine g_callV (p := 1) (As := [.int x5]) C dX11_feed_57 ml_X11_97 yv_f8_put ⟨rfl, rfl⟩ ⟨Nat.le_of_ble_eq_true rfl, Nat.le_of_ble_eq_true rfl⟩ (hpC rfl rfl) rfl rfl rfl (Nat.le_of_ble_eq_true rfl) (ok_f8_put x5 h5 (tt_bind T)) ?_
    rintro _ h6 ⟨rfl, T⟩
    show G ΛC x 60 [(0, .ref 0), (1, .int x1), (2, .int x2), (3, .int x3), (4, .int x4), (5, .int x5)] [] h6
    refine g_aload_n (q := 0) C dX11_feed_60 rfl rfl ?_
    refine g_getF (k := 0) (q := 1) C dX11_feed_61 (hpC rfl rfl) rfl fl_X11_12 rfl rfl ?_
    refine g_getI (k := 1) C dX11_feed_64 (hpC rfl rfl) rfl fl_X11_93 rfl ?_
    exact g_iret C dX11_feed_67 (hR _ _ (tt_some T))
  · have T := tt_f T c1
    refine g_iconst (v := (-1)) C dX11_feed_16 (by decide) ?_
    exact g_iret C dX11_feed_17 (hR _ _ (tt_some T))

theorem ok_f11_feed {l : Launch} {K : Int32 × Hp → Prop} (x1 : Int32) (x2 : Int32) (x3 : Int32) (x4 : Int32) (x5 : Int32) (h : Hp) (T : Tt (f11_feed x1 x2 x3 x4 x5 h) K) : Ok ΛC l yX11_feed cX11_feed 6 (some .int) rm_f11_feed [.ref 0, .int x1, .int x2, .int x3, .int x4, .int x5] h (PIw K) :=
  Ok.of RX11 rfl (by decide) ⟨rfl, rfl⟩ (Nat.le_of_ble_eq_true rfl) (fun x C => k_f11_feed C x1 x2 x3 x4 x5 h (fun v _ q => ⟨v, rfl, q⟩) T)

abbrev rm_f11_text : Room := { frames := 7, cells := 0, slots := 0, locals := 155 }
noncomputable def f11_text (x1 : Int32) (h : Hp) : Option (Int32 × Hp) :=
  if x1 < 0 then (some ((-2), h)) else (if x1 ≤ h.1 1 1 then ((h.2.2 0 12).bind fun p3 => gd (decide (kdC p3 = 10)) <| (f7_readAll p3 x1 h).bind fun h5 => lt (wI h5 1 1 0) fun h6 => if h6.1 3 3 = 0 then ((h6.2.2 0 11).bind fun p8 => gd (decide (kdC p8 = 10)) <| (h6.2.2 0 12).bind fun p10 => gd (decide (kdC p10 = 10)) <| lt (wR h6 0 11 (some p10)) fun h12 => lt (wR h12 0 12 (some p8)) fun h13 => (h13.2.2 0 11).bind fun p14 => gd (decide (kdC p14 = 10)) <| (f9_setOut 6 p14 h13).bind fun h16 => (f3_clear h16).bind fun h17 => (f1_clear h17).bind fun h18 => lt (wI h18 0 13 0) fun h19 => (h19.2.2 0 11).bind fun p20 => gd (decide (kdC p20 = 10)) <| some (h19.1 p20 11, h19)) else (some ((-1), h6))) else (some ((-2), h)))
set_option maxRecDepth 100000 in
set_option maxHeartbeats 4000000 in
theorem k_f11_text {x : Mx} {l : Launch} {post0 : Option Value → Hp → Prop} (C : Cx ΛC x l RX11 cX11_text rm_f11_text (some .int) 3 post0) {K : Int32 × Hp → Prop} (x1 : Int32) (h : Hp) (hR : ∀ (v : Int32) (h : Hp), K (v, h) → post0 (some (.int v)) h) (T : Tt (f11_text x1 h) K) : G ΛC x 0 [(0, .ref 0), (1, .int x1)] [] h := by
  refine g_iload_n (q := 1) C dX11_text_0 rfl rfl ?_
  refine g_if_lt (tgt := 15) C dX11_text_1 (by decide) (fun c1 => ?_) (fun c1 => ?_)
  · have T := tt_t T c1
    refine g_bipush (v := (-2)) C dX11_text_15 (by decide) ?_
    exact g_iret C dX11_text_17 (hR _ _ (tt_some T))
  · have T := tt_f T c1
    refine g_iload_n (q := 1) C dX11_text_4 rfl rfl ?_
    refine g_aload_n (q := 0) C dX11_text_5 rfl rfl ?_
    refine g_getF (k := 0) (q := 1) C dX11_text_6 (hpC rfl rfl) rfl fl_X11_12 rfl rfl ?_
    refine g_getI (k := 1) C dX11_text_9 (hpC rfl rfl) rfl fl_X11_93 rfl ?_
    refine g_icmp_le (tgt := 18) C dX11_text_12 (by decide) (fun c2 => ?_) (fun c2 => ?_)
    · have T := tt_t T c2
      refine g_aload_n (q := 0) C dX11_text_18 rfl rfl ?_
      refine g_getF (k := 1) (q := 3) C dX11_text_19 (hpC rfl rfl) rfl fl_X11_23 rfl rfl ?_
      refine g_aload_n (q := 0) C dX11_text_22 rfl rfl ?_
      obtain ⟨p3, ep3, T⟩ := tt_bind T
      obtain ⟨g4, T⟩ := tt_gd T
      have kp3 : kdC p3 = 10 := of_decide_eq_true g4
      refine g_getD (k := 12) (q := p3) C dX11_text_23 (hpC rfl rfl) rfl fl_X11_86 rfl ep3 ?_
      refine g_iload_n (q := 1) C dX11_text_26 rfl rfl ?_
      refine g_callV (p := 3) (As := [.ref p3, .int x1]) C dX11_text_27 ml_X11_101 yv_f7_readAll ⟨rfl, rfl⟩ ⟨Nat.le_of_ble_eq_true rfl, Nat.le_of_ble_eq_true rfl⟩ (hpC rfl rfl) rfl rfl rfl (Nat.le_of_ble_eq_true rfl) (ok_f7_readAll p3 x1 kp3 h (tt_bind T)) ?_
      rintro _ h5 ⟨rfl, T⟩
      show G ΛC x 30 [(0, .ref 0), (1, .int x1)] [] h5
      refine g_aload_n (q := 0) C dX11_text_30 rfl rfl ?_
      refine g_getF (k := 0) (q := 1) C dX11_text_31 (hpC rfl rfl) rfl fl_X11_12 rfl rfl ?_
      refine g_iconst (v := 0) C dX11_text_34 (by decide) ?_
      obtain ⟨h6, eh6, T⟩ := tt_lt T
      refine g_putI (k := 1) C dX11_text_35 (hpC rfl rfl) rfl fp_X11_93 rfl eh6 ?_
      refine g_aload_n (q := 0) C dX11_text_38 rfl rfl ?_
      refine g_getF (k := 1) (q := 3) C dX11_text_39 (hpC rfl rfl) rfl fl_X11_23 rfl rfl ?_
      refine g_getI (k := 3) C dX11_text_42 (hpC rfl rfl) rfl fl_X11_105 rfl ?_
      refine g_if_eq (tgt := 50) C dX11_text_45 (by decide) (fun c7 => ?_) (fun c7 => ?_)
      · have T := tt_t T c7
        refine g_aload_n (q := 0) C dX11_text_50 rfl rfl ?_
        obtain ⟨p8, ep8, T⟩ := tt_bind T
        obtain ⟨g9, T⟩ := tt_gd T
        have kp8 : kdC p8 = 10 := of_decide_eq_true g9
        refine g_getD (k := 11) (q := p8) C dX11_text_51 (hpC rfl rfl) rfl fl_X11_82 rfl ep8 ?_
        refine g_astore_n (L' := [(2, .ref p8), (0, .ref 0), (1, .int x1)]) C dX11_text_54 rfl (by decide) rfl ?_
        refine g_aload_n (q := 1) C dX11_text_55 rfl rfl ?_
        refine g_aload_n (q := 1) C dX11_text_56 rfl rfl ?_
        obtain ⟨p10, ep10, T⟩ := tt_bind T
        obtain ⟨g11, T⟩ := tt_gd T
        have kp10 : kdC p10 = 10 := of_decide_eq_true g11
        refine g_getD (k := 12) (q := p10) C dX11_text_57 (hpC rfl rfl) rfl fl_X11_86 rfl ep10 ?_
        obtain ⟨h12, eh12, T⟩ := tt_lt T
        refine g_putR (k := 11) C dX11_text_60 (hpC rfl rfl) rfl fp_X11_82 rfl eh12 ?_
        refine g_aload_n (q := 1) C dX11_text_63 rfl rfl ?_
        refine g_aload_n (q := 0) C dX11_text_64 rfl rfl ?_
        obtain ⟨h13, eh13, T⟩ := tt_lt T
        refine g_putR (k := 12) C dX11_text_65 (hpC rfl rfl) rfl fp_X11_86 rfl eh13 ?_
        refine g_aload_n (q := 1) C dX11_text_68 rfl rfl ?_
        refine g_getF (k := 2) (q := 6) C dX11_text_69 (hpC rfl rfl) rfl fl_X11_30 rfl rfl ?_
        refine g_aload_n (q := 1) C dX11_text_72 rfl rfl ?_
        obtain ⟨p14, ep14, T⟩ := tt_bind T
        obtain ⟨g15, T⟩ := tt_gd T
        have kp14 : kdC p14 = 10 := of_decide_eq_true g15
        refine g_getD (k := 11) (q := p14) C dX11_text_73 (hpC rfl rfl) rfl fl_X11_82 rfl ep14 ?_
        refine g_callV (p := 6) (As := [.ref p14]) C dX11_text_76 ml_X11_108 yv_f9_setOut ⟨rfl, rfl⟩ ⟨Nat.le_of_ble_eq_true rfl, Nat.le_of_ble_eq_true rfl⟩ (hpC rfl rfl) rfl rfl rfl (Nat.le_of_ble_eq_true rfl) (ok_f9_setOut 6 p14 rfl kp14 h13 (tt_bind T)) ?_
        rintro _ h16 ⟨rfl, T⟩
        show G ΛC x 79 [(2, .ref p8), (0, .ref 0), (1, .int x1)] [] h16
        refine g_aload_n (q := 1) C dX11_text_79 rfl rfl ?_
        refine g_getF (k := 5) (q := 39) C dX11_text_80 (hpC rfl rfl) rfl fl_X11_47 rfl rfl ?_
        refine g_callV (p := 39) (As := []) C dX11_text_83 ml_X11_112 yv_f3_clear ⟨rfl, rfl⟩ ⟨Nat.le_of_ble_eq_true rfl, Nat.le_of_ble_eq_true rfl⟩ (hpC rfl rfl) rfl rfl rfl (Nat.le_of_ble_eq_true rfl) (ok_f3_clear h16 (tt_bind T)) ?_
        rintro _ h17 ⟨rfl, T⟩
        show G ΛC x 86 [(2, .ref p8), (0, .ref 0), (1, .int x1)] [] h17
        refine g_aload_n (q := 1) C dX11_text_86 rfl rfl ?_
        refine g_getF (k := 4) (q := 34) C dX11_text_87 (hpC rfl rfl) rfl fl_X11_40 rfl rfl ?_
        refine g_callV (p := 34) (As := []) C dX11_text_90 ml_X11_115 yv_f1_clear ⟨rfl, rfl⟩ ⟨Nat.le_of_ble_eq_true rfl, Nat.le_of_ble_eq_true rfl⟩ (hpC rfl rfl) rfl rfl rfl (Nat.le_of_ble_eq_true rfl) (ok_f1_clear h17 (tt_bind T)) ?_
        rintro _ h18 ⟨rfl, T⟩
        show G ΛC x 93 [(2, .ref p8), (0, .ref 0), (1, .int x1)] [] h18
        refine g_aload_n (q := 1) C dX11_text_93 rfl rfl ?_
        refine g_iconst (v := 0) C dX11_text_94 (by decide) ?_
        obtain ⟨h19, eh19, T⟩ := tt_lt T
        refine g_putZ (k := 13) C dX11_text_95 (hpC rfl rfl) rfl fp_X11_89 rfl (Or.inl rfl) eh19 ?_
        refine g_aload_n (q := 1) C dX11_text_98 rfl rfl ?_
        obtain ⟨p20, ep20, T⟩ := tt_bind T
        obtain ⟨g21, T⟩ := tt_gd T
        have kp20 : kdC p20 = 10 := of_decide_eq_true g21
        refine g_getD (k := 11) (q := p20) C dX11_text_99 (hpC rfl rfl) rfl fl_X11_82 rfl ep20 ?_
        refine g_getI (k := 11) C dX11_text_102 (hpC kp20 rfl) kp20 fl_X11_116 rfl ?_
        exact g_iret C dX11_text_105 (hR _ _ (tt_some T))
      · have T := tt_f T c7
        refine g_iconst (v := (-1)) C dX11_text_48 (by decide) ?_
        exact g_iret C dX11_text_49 (hR _ _ (tt_some T))
    · have T := tt_f T c2
      refine g_bipush (v := (-2)) C dX11_text_15 (by decide) ?_
      exact g_iret C dX11_text_17 (hR _ _ (tt_some T))

theorem ok_f11_text {l : Launch} {K : Int32 × Hp → Prop} (x1 : Int32) (h : Hp) (T : Tt (f11_text x1 h) K) : Ok ΛC l yX11_text cX11_text 3 (some .int) rm_f11_text [.ref 0, .int x1] h (PIw K) :=
  Ok.of RX11 rfl (by decide) ⟨rfl, rfl⟩ (Nat.le_of_ble_eq_true rfl) (fun x C => k_f11_text C x1 h (fun v _ q => ⟨v, rfl, q⟩) T)

abbrev rm_f11_fault : Room := { frames := 0, cells := 0, slots := 0, locals := 0 }
noncomputable def f11_fault (x1 : Int32) (h : Hp) : Option (Int32) :=
  if x1 = 0 then (some (h.1 3 3)) else (if x1 = 1 then (some (h.1 3 4)) else (some (-1)))
set_option maxRecDepth 100000 in
set_option maxHeartbeats 4000000 in
theorem k_f11_fault {x : Mx} {l : Launch} {post0 : Option Value → Hp → Prop} (C : Cx ΛC x l RX11 cX11_fault rm_f11_fault (some .int) 2 post0) {K : Int32 → Prop} (x1 : Int32) (h : Hp) (hR : ∀ v : Int32, K v → post0 (some (.int v)) h) (T : Tt (f11_fault x1 h) K) : G ΛC x 0 [(0, .ref 0), (1, .int x1)] [] h := by
  refine g_iload_n (q := 1) C dX11_fault_0 rfl rfl ?_
  refine g_if_ne (tgt := 12) C dX11_fault_1 (by decide) (fun c1 => ?_) (fun c1 => ?_)
  · have T := tt_f T c1
    refine g_iload_n (q := 1) C dX11_fault_12 rfl rfl ?_
    refine g_iconst (v := 1) C dX11_fault_13 (by decide) ?_
    refine g_icmp_ne (tgt := 27) C dX11_fault_14 (by decide) (fun c2 => ?_) (fun c2 => ?_)
    · have T := tt_f T c2
      refine g_iconst (v := (-1)) C dX11_fault_27 (by decide) ?_
      exact g_iret C dX11_fault_28 (hR _ (tt_some T))
    · have T := tt_t T c2
      refine g_aload_n (q := 0) C dX11_fault_17 rfl rfl ?_
      refine g_getF (k := 1) (q := 3) C dX11_fault_18 (hpC rfl rfl) rfl fl_X11_23 rfl rfl ?_
      refine g_getI (k := 4) C dX11_fault_21 (hpC rfl rfl) rfl fl_X11_119 rfl ?_
      refine g_goto (tgt := 28) C dX11_fault_24 (by decide) ?_
      exact g_iret C dX11_fault_28 (hR _ (tt_some T))
  · have T := tt_t T c1
    refine g_aload_n (q := 0) C dX11_fault_4 rfl rfl ?_
    refine g_getF (k := 1) (q := 3) C dX11_fault_5 (hpC rfl rfl) rfl fl_X11_23 rfl rfl ?_
    refine g_getI (k := 3) C dX11_fault_8 (hpC rfl rfl) rfl fl_X11_105 rfl ?_
    exact g_iret C dX11_fault_11 (hR _ (tt_some T))

theorem ok_f11_fault {l : Launch} {K : Int32 → Prop} (x1 : Int32) (h : Hp) (T : Tt (f11_fault x1 h) K) : Ok ΛC l yX11_fault cX11_fault 2 (some .int) rm_f11_fault [.ref 0, .int x1] h (PIs K h) :=
  Ok.of RX11 rfl (by decide) ⟨rfl, rfl⟩ (Nat.le_of_ble_eq_true rfl) (fun x C => k_f11_fault C x1 h (fun v q => ⟨v, rfl, rfl, q⟩) T)

abbrev rm_f11_named : Room := { frames := 1, cells := 0, slots := 0, locals := 22 }
noncomputable def f11_named (x1 : Int32) (x2 : Int32) (h : Hp) : Option (Int32) :=
  if x1 = 0 then ((h.2.2 0 11).bind fun p6 => gd (decide (kdC p6 = 10)) <| (f10_boxNamed p6 x2 h).bind fun r8 => some r8) else (if x1 = 1 then ((h.2.2 0 11).bind fun p3 => gd (decide (kdC p3 = 10)) <| (f10_guestNamed p3 x2 h).bind fun r5 => some r5) else (some (-1)))
set_option maxRecDepth 100000 in
set_option maxHeartbeats 4000000 in
theorem k_f11_named {x : Mx} {l : Launch} {post0 : Option Value → Hp → Prop} (C : Cx ΛC x l RX11 cX11_named rm_f11_named (some .int) 3 post0) {K : Int32 → Prop} (x1 : Int32) (x2 : Int32) (h : Hp) (hR : ∀ v : Int32, K v → post0 (some (.int v)) h) (T : Tt (f11_named x1 x2 h) K) : G ΛC x 0 [(0, .ref 0), (1, .int x1), (2, .int x2)] [] h := by
  refine g_iload_n (q := 1) C dX11_named_0 rfl rfl ?_
  refine g_if_ne (tgt := 13) C dX11_named_1 (by decide) (fun c1 => ?_) (fun c1 => ?_)
  · have T := tt_f T c1
    refine g_iload_n (q := 1) C dX11_named_13 rfl rfl ?_
    refine g_iconst (v := 1) C dX11_named_14 (by decide) ?_
    refine g_icmp_ne (tgt := 29) C dX11_named_15 (by decide) (fun c2 => ?_) (fun c2 => ?_)
    · have T := tt_f T c2
      refine g_iconst (v := (-1)) C dX11_named_29 (by decide) ?_
      exact g_iret C dX11_named_30 (hR _ (tt_some T))
    · have T := tt_t T c2
      refine g_aload_n (q := 0) C dX11_named_18 rfl rfl ?_
      obtain ⟨p3, ep3, T⟩ := tt_bind T
      obtain ⟨g4, T⟩ := tt_gd T
      have kp3 : kdC p3 = 10 := of_decide_eq_true g4
      refine g_getD (k := 11) (q := p3) C dX11_named_19 (hpC rfl rfl) rfl fl_X11_82 rfl ep3 ?_
      refine g_iload_n (q := 2) C dX11_named_22 rfl rfl ?_
      refine g_callV (p := p3) (As := [.int x2]) C dX11_named_23 ml_X11_126 yv_f10_guestNamed ⟨rfl, rfl⟩ ⟨Nat.le_of_ble_eq_true rfl, Nat.le_of_ble_eq_true rfl⟩ (hpC kp3 rfl) kp3 rfl rfl (Nat.le_of_ble_eq_true rfl) (ok_f10_guestNamed p3 x2 kp3 h (tt_bind T)) ?_
      rintro _ _ ⟨r5, rfl, rfl, T⟩
      show G ΛC x 26 [(0, .ref 0), (1, .int x1), (2, .int x2)] [.int r5] h
      refine g_goto (tgt := 30) C dX11_named_26 (by decide) ?_
      exact g_iret C dX11_named_30 (hR _ (tt_some T))
  · have T := tt_t T c1
    refine g_aload_n (q := 0) C dX11_named_4 rfl rfl ?_
    obtain ⟨p6, ep6, T⟩ := tt_bind T
    obtain ⟨g7, T⟩ := tt_gd T
    have kp6 : kdC p6 = 10 := of_decide_eq_true g7
    refine g_getD (k := 11) (q := p6) C dX11_named_5 (hpC rfl rfl) rfl fl_X11_82 rfl ep6 ?_
    refine g_iload_n (q := 2) C dX11_named_8 rfl rfl ?_
    refine g_callV (p := p6) (As := [.int x2]) C dX11_named_9 ml_X11_122 yv_f10_boxNamed ⟨rfl, rfl⟩ ⟨Nat.le_of_ble_eq_true rfl, Nat.le_of_ble_eq_true rfl⟩ (hpC kp6 rfl) kp6 rfl rfl (Nat.le_of_ble_eq_true rfl) (ok_f10_boxNamed p6 x2 kp6 h (tt_bind T)) ?_
    rintro _ _ ⟨r8, rfl, rfl, T⟩
    show G ΛC x 12 [(0, .ref 0), (1, .int x1), (2, .int x2)] [.int r8] h
    exact g_iret C dX11_named_12 (hR _ (tt_some T))

theorem ok_f11_named {l : Launch} {K : Int32 → Prop} (x1 : Int32) (x2 : Int32) (h : Hp) (T : Tt (f11_named x1 x2 h) K) : Ok ΛC l yX11_named cX11_named 3 (some .int) rm_f11_named [.ref 0, .int x1, .int x2] h (PIs K h) :=
  Ok.of RX11 rfl (by decide) ⟨rfl, rfl⟩ (Nat.le_of_ble_eq_true rfl) (fun x C => k_f11_named C x1 x2 h (fun v q => ⟨v, rfl, rfl, q⟩) T)

abbrev rm_f11_isBox : Room := { frames := 0, cells := 0, slots := 0, locals := 0 }
noncomputable def f11_isBox_19 (h : Hp) : Option (Int32) :=
  some 0
set_option maxRecDepth 100000 in
set_option maxHeartbeats 4000000 in
theorem k_f11_isBox_19 {x : Mx} {l : Launch} {post0 : Option Value → Hp → Prop} (C : Cx ΛC x l RX11 cX11_isBox rm_f11_isBox (some .boolean) 2 post0) {K : Int32 → Prop} (h : Hp) (hR : ∀ v : Int32, K v → post0 (some (.int v)) h) (T : Tt (f11_isBox_19 h) K) : G ΛC x 19 [] [] h := by
  refine g_iconst (v := 0) C dX11_isBox_19 (by decide) ?_
  exact g_zret C dX11_isBox_20 (Or.inl rfl) (hR _ (tt_some T))

noncomputable def f11_isBox (x1 : Int32) (h : Hp) : Option (Int32) :=
  if x1 < 0 then (f11_isBox_19 h) else (if h.1 6 1 ≤ x1 then (f11_isBox_19 h) else (some 1))
set_option maxRecDepth 100000 in
set_option maxHeartbeats 4000000 in
theorem k_f11_isBox {x : Mx} {l : Launch} {post0 : Option Value → Hp → Prop} (C : Cx ΛC x l RX11 cX11_isBox rm_f11_isBox (some .boolean) 2 post0) {K : Int32 → Prop} (x1 : Int32) (h : Hp) (hR : ∀ v : Int32, K v → post0 (some (.int v)) h) (T : Tt (f11_isBox x1 h) K) : G ΛC x 0 [(0, .ref 0), (1, .int x1)] [] h := by
  refine g_iload_n (q := 1) C dX11_isBox_0 rfl rfl ?_
  refine g_if_lt (tgt := 19) C dX11_isBox_1 (by decide) (fun c1 => ?_) (fun c1 => ?_)
  · have T := tt_t T c1
    refine g_sub [] rfl ?_
    exact k_f11_isBox_19 C h hR T
  · have T := tt_f T c1
    refine g_iload_n (q := 1) C dX11_isBox_4 rfl rfl ?_
    refine g_aload_n (q := 0) C dX11_isBox_5 rfl rfl ?_
    refine g_getF (k := 2) (q := 6) C dX11_isBox_6 (hpC rfl rfl) rfl fl_X11_30 rfl rfl ?_
    refine g_getI (k := 1) C dX11_isBox_9 (hpC rfl rfl) rfl fl_X11_263 rfl ?_
    refine g_icmp_ge (tgt := 19) C dX11_isBox_12 (by decide) (fun c2 => ?_) (fun c2 => ?_)
    · have T := tt_t T c2
      refine g_sub [] rfl ?_
      exact k_f11_isBox_19 C h hR T
    · have T := tt_f T c2
      refine g_iconst (v := 1) C dX11_isBox_15 (by decide) ?_
      refine g_goto (tgt := 20) C dX11_isBox_16 (by decide) ?_
      exact g_zret C dX11_isBox_20 (Or.inr rfl) (hR _ (tt_some T))

theorem ok_f11_isBox {l : Launch} {K : Int32 → Prop} (x1 : Int32) (h : Hp) (T : Tt (f11_isBox x1 h) K) : Ok ΛC l yX11_isBox cX11_isBox 2 (some .boolean) rm_f11_isBox [.ref 0, .int x1] h (PIs K h) :=
  Ok.of RX11 rfl (by decide) ⟨rfl, rfl⟩ (Nat.le_of_ble_eq_true rfl) (fun x C => k_f11_isBox C x1 h (fun v q => ⟨v, rfl, rfl, q⟩) T)

abbrev rm_f11_isWithin : Room := { frames := 0, cells := 0, slots := 0, locals := 0 }
noncomputable def f11_isWithin_14 : Option (Int32) :=
  some 0
set_option maxRecDepth 100000 in
set_option maxHeartbeats 4000000 in
theorem k_f11_isWithin_14 {x : Mx} {l : Launch} {post0 : Option Value → Hp → Prop} (C : Cx ΛC x l RX11 cX11_isWithin rm_f11_isWithin (some .boolean) 3 post0) {K : Int32 → Prop} (h : Hp) (hR : ∀ v : Int32, K v → post0 (some (.int v)) h) (T : Tt (f11_isWithin_14) K) : G ΛC x 14 [] [] h := by
  refine g_iconst (v := 0) C dX11_isWithin_14 (by decide) ?_
  exact g_zret C dX11_isWithin_15 (Or.inl rfl) (hR _ (tt_some T))

noncomputable def f11_isWithin (x0 : Int32) (x1 : Int32) (x2 : Int32) : Option (Int32) :=
  if x0 < x1 then (f11_isWithin_14) else (if x2 < x0 then (f11_isWithin_14) else (some 1))
set_option maxRecDepth 100000 in
set_option maxHeartbeats 4000000 in
theorem k_f11_isWithin {x : Mx} {l : Launch} {post0 : Option Value → Hp → Prop} (C : Cx ΛC x l RX11 cX11_isWithin rm_f11_isWithin (some .boolean) 3 post0) {K : Int32 → Prop} (x0 : Int32) (x1 : Int32) (x2 : Int32) (h : Hp) (hR : ∀ v : Int32, K v → post0 (some (.int v)) h) (T : Tt (f11_isWithin x0 x1 x2) K) : G ΛC x 0 [(0, .int x0), (1, .int x1), (2, .int x2)] [] h := by
  refine g_iload_n (q := 0) C dX11_isWithin_0 rfl rfl ?_
  refine g_iload_n (q := 1) C dX11_isWithin_1 rfl rfl ?_
  refine g_icmp_lt (tgt := 14) C dX11_isWithin_2 (by decide) (fun c1 => ?_) (fun c1 => ?_)
  · have T := tt_t T c1
    refine g_sub [] rfl ?_
    exact k_f11_isWithin_14 C h hR T
  · have T := tt_f T c1
    refine g_iload_n (q := 0) C dX11_isWithin_5 rfl rfl ?_
    refine g_iload_n (q := 2) C dX11_isWithin_6 rfl rfl ?_
    refine g_icmp_gt (tgt := 14) C dX11_isWithin_7 (by decide) (fun c2 => ?_) (fun c2 => ?_)
    · have T := tt_t T c2
      refine g_sub [] rfl ?_
      exact k_f11_isWithin_14 C h hR T
    · have T := tt_f T c2
      refine g_iconst (v := 1) C dX11_isWithin_10 (by decide) ?_
      refine g_goto (tgt := 15) C dX11_isWithin_11 (by decide) ?_
      exact g_zret C dX11_isWithin_15 (Or.inr rfl) (hR _ (tt_some T))

theorem ok_f11_isWithin {l : Launch} {K : Int32 → Prop} (x0 : Int32) (x1 : Int32) (x2 : Int32) (h : Hp) (T : Tt (f11_isWithin x0 x1 x2) K) : Ok ΛC l yX11_isWithin cX11_isWithin 3 (some .boolean) rm_f11_isWithin [.int x0, .int x1, .int x2] h (PIs K h) :=
  Ok.of RX11 rfl (by decide) ⟨rfl, rfl⟩ (Nat.le_of_ble_eq_true rfl) (fun x C => k_f11_isWithin C x0 x1 x2 h (fun v q => ⟨v, rfl, rfl, q⟩) T)

abbrev rm_f11_pin : Room := { frames := 1, cells := 0, slots := 0, locals := 22 }
noncomputable def f11_pin_35 (h : Hp) : Option (Int32) :=
  some (-1)
set_option maxRecDepth 100000 in
set_option maxHeartbeats 4000000 in
theorem k_f11_pin_35 {x : Mx} {l : Launch} {post0 : Option Value → Hp → Prop} (C : Cx ΛC x l RX11 cX11_pin rm_f11_pin (some .int) 3 post0) {K : Int32 → Prop} (h : Hp) (hR : ∀ v : Int32, K v → post0 (some (.int v)) h) (T : Tt (f11_pin_35 h) K) : G ΛC x 35 [] [] h := by
  refine g_iconst (v := (-1)) C dX11_pin_35 (by decide) ?_
  exact g_iret C dX11_pin_36 (hR _ (tt_some T))

noncomputable def f11_pin (x1 : Int32) (x2 : Int32) (h : Hp) : Option (Int32) :=
  (f11_isBox x1 h).bind fun r1 => if r1 = 0 then (f11_pin_35 h) else ((f11_isWithin x2 0 7).bind fun r3 => if r3 = 0 then (f11_pin_35 h) else (gd (inb x1 6) <| gd (inb x2 8) <| some (h.1 (8 + 2 * ix x1 + 1) (ix x2))))
set_option maxRecDepth 100000 in
set_option maxHeartbeats 4000000 in
theorem k_f11_pin {x : Mx} {l : Launch} {post0 : Option Value → Hp → Prop} (C : Cx ΛC x l RX11 cX11_pin rm_f11_pin (some .int) 3 post0) {K : Int32 → Prop} (x1 : Int32) (x2 : Int32) (h : Hp) (hR : ∀ v : Int32, K v → post0 (some (.int v)) h) (T : Tt (f11_pin x1 x2 h) K) : G ΛC x 0 [(0, .ref 0), (1, .int x1), (2, .int x2)] [] h := by
  refine g_aload_n (q := 0) C dX11_pin_0 rfl rfl ?_
  refine g_iload_n (q := 1) C dX11_pin_1 rfl rfl ?_
  refine g_callV (p := 0) (As := [.int x1]) C dX11_pin_2 ml_X11_129 yv_f11_isBox ⟨rfl, rfl⟩ ⟨Nat.le_of_ble_eq_true rfl, Nat.le_of_ble_eq_true rfl⟩ (hpC rfl rfl) rfl rfl rfl (Nat.le_of_ble_eq_true rfl) (ok_f11_isBox x1 h (tt_bind T)) ?_
  rintro _ _ ⟨r1, rfl, rfl, T⟩
  show G ΛC x 5 [(0, .ref 0), (1, .int x1), (2, .int x2)] [.int r1] h
  refine g_if_eq (tgt := 35) C dX11_pin_5 (by decide) (fun c2 => ?_) (fun c2 => ?_)
  · have T := tt_t T c2
    refine g_sub [] rfl ?_
    exact k_f11_pin_35 C h hR T
  · have T := tt_f T c2
    refine g_iload_n (q := 2) C dX11_pin_8 rfl rfl ?_
    refine g_iconst (v := 0) C dX11_pin_9 (by decide) ?_
    refine g_bipush (v := 7) C dX11_pin_10 (by decide) ?_
    refine g_callS (As := [.int x2, .int 0, .int 7]) C dX11_pin_12 ml_X11_170 ys_f11_isWithin ⟨rfl, rfl⟩ ⟨Nat.le_of_ble_eq_true rfl, Nat.le_of_ble_eq_true rfl⟩ rfl rfl (Nat.le_of_ble_eq_true rfl) (ok_f11_isWithin x2 0 7 h (tt_bind T)) ?_
    rintro _ _ ⟨r3, rfl, rfl, T⟩
    show G ΛC x 15 [(0, .ref 0), (1, .int x1), (2, .int x2)] [.int r3] h
    refine g_if_eq (tgt := 35) C dX11_pin_15 (by decide) (fun c4 => ?_) (fun c4 => ?_)
    · have T := tt_t T c4
      refine g_sub [] rfl ?_
      exact k_f11_pin_35 C h hR T
    · have T := tt_f T c4
      refine g_aload_n (q := 0) C dX11_pin_18 rfl rfl ?_
      refine g_getF (k := 2) (q := 6) C dX11_pin_19 (hpC rfl rfl) rfl fl_X11_30 rfl rfl ?_
      refine g_getF (k := 0) (q := 7) C dX11_pin_22 (hpC rfl rfl) rfl fl_X11_140 rfl rfl ?_
      refine g_iload_n (q := 1) C dX11_pin_25 rfl rfl ?_
      obtain ⟨g5, T⟩ := tt_gd T
      refine g_aald (q := 8 + 2 * ix x1) C dX11_pin_26 (hpC rfl rfl) rfl (inb_of rfl g5) rfl ?_
      refine g_getF (k := 0) (q := 8 + 2 * ix x1 + 1) C dX11_pin_27 (hpC (kboxC (a := 7) rfl g5) rfl) (kboxC (a := 7) rfl g5) fl_X11_174 rfl rfl ?_
      refine g_iload_n (q := 2) C dX11_pin_30 rfl rfl ?_
      obtain ⟨g6, T⟩ := tt_gd T
      refine g_iald C dX11_pin_31 (hpC (kf_0_0 (kboxC (a := 7) rfl g5)) rfl) (kf_0_0 (kboxC (a := 7) rfl g5)) (inb_of (lf_0_0 (kboxC (a := 7) rfl g5)) g6) ?_
      refine g_goto (tgt := 36) C dX11_pin_32 (by decide) ?_
      exact g_iret C dX11_pin_36 (hR _ (tt_some T))

theorem ok_f11_pin {l : Launch} {K : Int32 → Prop} (x1 : Int32) (x2 : Int32) (h : Hp) (T : Tt (f11_pin x1 x2 h) K) : Ok ΛC l yX11_pin cX11_pin 3 (some .int) rm_f11_pin [.ref 0, .int x1, .int x2] h (PIs K h) :=
  Ok.of RX11 rfl (by decide) ⟨rfl, rfl⟩ (Nat.le_of_ble_eq_true rfl) (fun x C => k_f11_pin C x1 x2 h (fun v q => ⟨v, rfl, rfl, q⟩) T)

abbrev rm_f11_heard : Room := { frames := 3, cells := 0, slots := 0, locals := 65 }
noncomputable def f11_heard_34 (h : Hp) : Option (Int32) :=
  some (-1)
set_option maxRecDepth 100000 in
set_option maxHeartbeats 4000000 in
theorem k_f11_heard_34 {x : Mx} {l : Launch} {post0 : Option Value → Hp → Prop} (C : Cx ΛC x l RX11 cX11_heard rm_f11_heard (some .int) 3 post0) {K : Int32 → Prop} (h : Hp) (hR : ∀ v : Int32, K v → post0 (some (.int v)) h) (T : Tt (f11_heard_34 h) K) : G ΛC x 34 [] [] h := by
  refine g_iconst (v := (-1)) C dX11_heard_34 (by decide) ?_
  exact g_iret C dX11_heard_35 (hR _ (tt_some T))

noncomputable def f11_heard (x1 : Int32) (x2 : Int32) (h : Hp) : Option (Int32) :=
  (f11_isBox x1 h).bind fun r1 => if r1 = 0 then (f11_heard_34 h) else ((f11_isWithin x2 0 7).bind fun r3 => if r3 = 0 then (f11_heard_34 h) else (gd (inb x1 6) <| (f0_heardNow (8 + 2 * ix x1) x2 h).bind fun r6 => some r6))
set_option maxRecDepth 100000 in
set_option maxHeartbeats 4000000 in
theorem k_f11_heard {x : Mx} {l : Launch} {post0 : Option Value → Hp → Prop} (C : Cx ΛC x l RX11 cX11_heard rm_f11_heard (some .int) 3 post0) {K : Int32 → Prop} (x1 : Int32) (x2 : Int32) (h : Hp) (hR : ∀ v : Int32, K v → post0 (some (.int v)) h) (T : Tt (f11_heard x1 x2 h) K) : G ΛC x 0 [(0, .ref 0), (1, .int x1), (2, .int x2)] [] h := by
  refine g_aload_n (q := 0) C dX11_heard_0 rfl rfl ?_
  refine g_iload_n (q := 1) C dX11_heard_1 rfl rfl ?_
  refine g_callV (p := 0) (As := [.int x1]) C dX11_heard_2 ml_X11_129 yv_f11_isBox ⟨rfl, rfl⟩ ⟨Nat.le_of_ble_eq_true rfl, Nat.le_of_ble_eq_true rfl⟩ (hpC rfl rfl) rfl rfl rfl (Nat.le_of_ble_eq_true rfl) (ok_f11_isBox x1 h (tt_bind T)) ?_
  rintro _ _ ⟨r1, rfl, rfl, T⟩
  show G ΛC x 5 [(0, .ref 0), (1, .int x1), (2, .int x2)] [.int r1] h
  refine g_if_eq (tgt := 34) C dX11_heard_5 (by decide) (fun c2 => ?_) (fun c2 => ?_)
  · have T := tt_t T c2
    refine g_sub [] rfl ?_
    exact k_f11_heard_34 C h hR T
  · have T := tt_f T c2
    refine g_iload_n (q := 2) C dX11_heard_8 rfl rfl ?_
    refine g_iconst (v := 0) C dX11_heard_9 (by decide) ?_
    refine g_bipush (v := 7) C dX11_heard_10 (by decide) ?_
    refine g_callS (As := [.int x2, .int 0, .int 7]) C dX11_heard_12 ml_X11_170 ys_f11_isWithin ⟨rfl, rfl⟩ ⟨Nat.le_of_ble_eq_true rfl, Nat.le_of_ble_eq_true rfl⟩ rfl rfl (Nat.le_of_ble_eq_true rfl) (ok_f11_isWithin x2 0 7 h (tt_bind T)) ?_
    rintro _ _ ⟨r3, rfl, rfl, T⟩
    show G ΛC x 15 [(0, .ref 0), (1, .int x1), (2, .int x2)] [.int r3] h
    refine g_if_eq (tgt := 34) C dX11_heard_15 (by decide) (fun c4 => ?_) (fun c4 => ?_)
    · have T := tt_t T c4
      refine g_sub [] rfl ?_
      exact k_f11_heard_34 C h hR T
    · have T := tt_f T c4
      refine g_aload_n (q := 0) C dX11_heard_18 rfl rfl ?_
      refine g_getF (k := 2) (q := 6) C dX11_heard_19 (hpC rfl rfl) rfl fl_X11_30 rfl rfl ?_
      refine g_getF (k := 0) (q := 7) C dX11_heard_22 (hpC rfl rfl) rfl fl_X11_140 rfl rfl ?_
      refine g_iload_n (q := 1) C dX11_heard_25 rfl rfl ?_
      obtain ⟨g5, T⟩ := tt_gd T
      refine g_aald (q := 8 + 2 * ix x1) C dX11_heard_26 (hpC rfl rfl) rfl (inb_of rfl g5) rfl ?_
      refine g_iload_n (q := 2) C dX11_heard_27 rfl rfl ?_
      refine g_callV (p := (8 + 2 * ix x1)) (As := [.int x2]) C dX11_heard_28 ml_X11_177 yv_f0_heardNow ⟨rfl, rfl⟩ ⟨Nat.le_of_ble_eq_true rfl, Nat.le_of_ble_eq_true rfl⟩ (hpC (kboxC (a := 7) rfl g5) rfl) (kboxC (a := 7) rfl g5) rfl rfl (Nat.le_of_ble_eq_true rfl) (ok_f0_heardNow (8 + 2 * ix x1) x2 (kboxC (a := 7) rfl g5) h (tt_bind T)) ?_
      rintro _ _ ⟨r6, rfl, rfl, T⟩
      show G ΛC x 31 [(0, .ref 0), (1, .int x1), (2, .int x2)] [.int r6] h
      refine g_goto (tgt := 35) C dX11_heard_31 (by decide) ?_
      exact g_iret C dX11_heard_35 (hR _ (tt_some T))

theorem ok_f11_heard {l : Launch} {K : Int32 → Prop} (x1 : Int32) (x2 : Int32) (h : Hp) (T : Tt (f11_heard x1 x2 h) K) : Ok ΛC l yX11_heard cX11_heard 3 (some .int) rm_f11_heard [.ref 0, .int x1, .int x2] h (PIs K h) :=
  Ok.of RX11 rfl (by decide) ⟨rfl, rfl⟩ (Nat.le_of_ble_eq_true rfl) (fun x C => k_f11_heard C x1 x2 h (fun v q => ⟨v, rfl, rfl, q⟩) T)

abbrev rm_f11_guest : Room := { frames := 1, cells := 0, slots := 0, locals := 22 }
noncomputable def f11_guest (x1 : Int32) (x2 : Int32) (h : Hp) : Option (Int32) :=
  (h.2.2 0 11).bind fun p1 => gd (decide (kdC p1 = 10)) <| (f11_isWithin x1 0 ((h.1 p1 8) - 1)).bind fun r3 => if r3 = 0 then (some (-1)) else (if x2 = 0 then ((h.2.2 0 11).bind fun p10 => gd (decide (kdC p10 = 10)) <| gd (inb x1 5) <| some (h.1 (p10 + 21) (ix x1))) else (if x2 = 1 then ((h.2.2 0 11).bind fun p7 => gd (decide (kdC p7 = 10)) <| gd (inb x1 5) <| some (h.1 (p7 + 22) (ix x1))) else (some (-1))))
set_option maxRecDepth 100000 in
set_option maxHeartbeats 4000000 in
theorem k_f11_guest {x : Mx} {l : Launch} {post0 : Option Value → Hp → Prop} (C : Cx ΛC x l RX11 cX11_guest rm_f11_guest (some .int) 3 post0) {K : Int32 → Prop} (x1 : Int32) (x2 : Int32) (h : Hp) (hR : ∀ v : Int32, K v → post0 (some (.int v)) h) (T : Tt (f11_guest x1 x2 h) K) : G ΛC x 0 [(0, .ref 0), (1, .int x1), (2, .int x2)] [] h := by
  refine g_iload_n (q := 1) C dX11_guest_0 rfl rfl ?_
  refine g_iconst (v := 0) C dX11_guest_1 (by decide) ?_
  refine g_aload_n (q := 0) C dX11_guest_2 rfl rfl ?_
  obtain ⟨p1, ep1, T⟩ := tt_bind T
  obtain ⟨g2, T⟩ := tt_gd T
  have kp1 : kdC p1 = 10 := of_decide_eq_true g2
  refine g_getD (k := 11) (q := p1) C dX11_guest_3 (hpC rfl rfl) rfl fl_X11_82 rfl ep1 ?_
  refine g_getI (k := 8) C dX11_guest_6 (hpC kp1 rfl) kp1 fl_X11_180 rfl ?_
  refine g_iconst (v := 1) C dX11_guest_9 (by decide) ?_
  refine g_isub C dX11_guest_10 ?_
  refine g_callS (As := [.int x1, .int 0, .int ((h.1 p1 8) - 1)]) C dX11_guest_11 ml_X11_170 ys_f11_isWithin ⟨rfl, rfl⟩ ⟨Nat.le_of_ble_eq_true rfl, Nat.le_of_ble_eq_true rfl⟩ rfl rfl (Nat.le_of_ble_eq_true rfl) (ok_f11_isWithin x1 0 ((h.1 p1 8) - 1) h (tt_bind T)) ?_
  rintro _ _ ⟨r3, rfl, rfl, T⟩
  show G ΛC x 14 [(0, .ref 0), (1, .int x1), (2, .int x2)] [.int r3] h
  refine g_if_ne (tgt := 19) C dX11_guest_14 (by decide) (fun c4 => ?_) (fun c4 => ?_)
  · have T := tt_f T c4
    refine g_iload_n (q := 2) C dX11_guest_19 rfl rfl ?_
    refine g_if_ne (tgt := 33) C dX11_guest_20 (by decide) (fun c5 => ?_) (fun c5 => ?_)
    · have T := tt_f T c5
      refine g_iload_n (q := 2) C dX11_guest_33 rfl rfl ?_
      refine g_iconst (v := 1) C dX11_guest_34 (by decide) ?_
      refine g_icmp_ne (tgt := 50) C dX11_guest_35 (by decide) (fun c6 => ?_) (fun c6 => ?_)
      · have T := tt_f T c6
        refine g_iconst (v := (-1)) C dX11_guest_50 (by decide) ?_
        exact g_iret C dX11_guest_51 (hR _ (tt_some T))
      · have T := tt_t T c6
        refine g_aload_n (q := 0) C dX11_guest_38 rfl rfl ?_
        obtain ⟨p7, ep7, T⟩ := tt_bind T
        obtain ⟨g8, T⟩ := tt_gd T
        have kp7 : kdC p7 = 10 := of_decide_eq_true g8
        refine g_getD (k := 11) (q := p7) C dX11_guest_39 (hpC rfl rfl) rfl fl_X11_82 rfl ep7 ?_
        refine g_getF (k := 4) (q := p7 + 22) C dX11_guest_42 (hpC kp7 rfl) kp7 fl_X11_186 rfl rfl ?_
        refine g_iload_n (q := 1) C dX11_guest_45 rfl rfl ?_
        obtain ⟨g9, T⟩ := tt_gd T
        refine g_iald C dX11_guest_46 (hpC (kf_10_4 kp7) rfl) (kf_10_4 kp7) (inb_of (lf_10_4 kp7) g9) ?_
        refine g_goto (tgt := 51) C dX11_guest_47 (by decide) ?_
        exact g_iret C dX11_guest_51 (hR _ (tt_some T))
    · have T := tt_t T c5
      refine g_aload_n (q := 0) C dX11_guest_23 rfl rfl ?_
      obtain ⟨p10, ep10, T⟩ := tt_bind T
      obtain ⟨g11, T⟩ := tt_gd T
      have kp10 : kdC p10 = 10 := of_decide_eq_true g11
      refine g_getD (k := 11) (q := p10) C dX11_guest_24 (hpC rfl rfl) rfl fl_X11_82 rfl ep10 ?_
      refine g_getF (k := 3) (q := p10 + 21) C dX11_guest_27 (hpC kp10 rfl) kp10 fl_X11_183 rfl rfl ?_
      refine g_iload_n (q := 1) C dX11_guest_30 rfl rfl ?_
      obtain ⟨g12, T⟩ := tt_gd T
      refine g_iald C dX11_guest_31 (hpC (kf_10_3 kp10) rfl) (kf_10_3 kp10) (inb_of (lf_10_3 kp10) g12) ?_
      exact g_iret C dX11_guest_32 (hR _ (tt_some T))
  · have T := tt_t T c4
    refine g_iconst (v := (-1)) C dX11_guest_17 (by decide) ?_
    exact g_iret C dX11_guest_18 (hR _ (tt_some T))

theorem ok_f11_guest {l : Launch} {K : Int32 → Prop} (x1 : Int32) (x2 : Int32) (h : Hp) (T : Tt (f11_guest x1 x2 h) K) : Ok ΛC l yX11_guest cX11_guest 3 (some .int) rm_f11_guest [.ref 0, .int x1, .int x2] h (PIs K h) :=
  Ok.of RX11 rfl (by decide) ⟨rfl, rfl⟩ (Nat.le_of_ble_eq_true rfl) (fun x C => k_f11_guest C x1 x2 h (fun v q => ⟨v, rfl, rfl, q⟩) T)

abbrev rm_f11_kin : Room := { frames := 1, cells := 0, slots := 0, locals := 21 }
noncomputable def f11_kin (x1 : Int32) (x2 : Int32) (h : Hp) : Option (Int32) :=
  (f11_isBox x1 h).bind fun r1 => if r1 = 0 then (some (-1)) else ((f11_isBox x2 h).bind fun r3 => if r3 = 0 then (some (-1)) else (gd (inb x1 6) <| (f0_isKinOf (8 + 2 * ix x1) x2 h).bind fun r6 => if r6 = 0 then (some 0) else (some 1)))
set_option maxRecDepth 100000 in
set_option maxHeartbeats 4000000 in
theorem k_f11_kin {x : Mx} {l : Launch} {post0 : Option Value → Hp → Prop} (C : Cx ΛC x l RX11 cX11_kin rm_f11_kin (some .int) 3 post0) {K : Int32 → Prop} (x1 : Int32) (x2 : Int32) (h : Hp) (hR : ∀ v : Int32, K v → post0 (some (.int v)) h) (T : Tt (f11_kin x1 x2 h) K) : G ΛC x 0 [(0, .ref 0), (1, .int x1), (2, .int x2)] [] h := by
  refine g_aload_n (q := 0) C dX11_kin_0 rfl rfl ?_
  refine g_iload_n (q := 1) C dX11_kin_1 rfl rfl ?_
  refine g_callV (p := 0) (As := [.int x1]) C dX11_kin_2 ml_X11_129 yv_f11_isBox ⟨rfl, rfl⟩ ⟨Nat.le_of_ble_eq_true rfl, Nat.le_of_ble_eq_true rfl⟩ (hpC rfl rfl) rfl rfl rfl (Nat.le_of_ble_eq_true rfl) (ok_f11_isBox x1 h (tt_bind T)) ?_
  rintro _ _ ⟨r1, rfl, rfl, T⟩
  show G ΛC x 5 [(0, .ref 0), (1, .int x1), (2, .int x2)] [.int r1] h
  refine g_if_eq (tgt := 16) C dX11_kin_5 (by decide) (fun c2 => ?_) (fun c2 => ?_)
  · have T := tt_t T c2
    refine g_iconst (v := (-1)) C dX11_kin_16 (by decide) ?_
    exact g_iret C dX11_kin_17 (hR _ (tt_some T))
  · have T := tt_f T c2
    refine g_aload_n (q := 0) C dX11_kin_8 rfl rfl ?_
    refine g_iload_n (q := 2) C dX11_kin_9 rfl rfl ?_
    refine g_callV (p := 0) (As := [.int x2]) C dX11_kin_10 ml_X11_129 yv_f11_isBox ⟨rfl, rfl⟩ ⟨Nat.le_of_ble_eq_true rfl, Nat.le_of_ble_eq_true rfl⟩ (hpC rfl rfl) rfl rfl rfl (Nat.le_of_ble_eq_true rfl) (ok_f11_isBox x2 h (tt_bind T)) ?_
    rintro _ _ ⟨r3, rfl, rfl, T⟩
    show G ΛC x 13 [(0, .ref 0), (1, .int x1), (2, .int x2)] [.int r3] h
    refine g_if_ne (tgt := 18) C dX11_kin_13 (by decide) (fun c4 => ?_) (fun c4 => ?_)
    · have T := tt_f T c4
      refine g_aload_n (q := 0) C dX11_kin_18 rfl rfl ?_
      refine g_getF (k := 2) (q := 6) C dX11_kin_19 (hpC rfl rfl) rfl fl_X11_30 rfl rfl ?_
      refine g_getF (k := 0) (q := 7) C dX11_kin_22 (hpC rfl rfl) rfl fl_X11_140 rfl rfl ?_
      refine g_iload_n (q := 1) C dX11_kin_25 rfl rfl ?_
      obtain ⟨g5, T⟩ := tt_gd T
      refine g_aald (q := 8 + 2 * ix x1) C dX11_kin_26 (hpC rfl rfl) rfl (inb_of rfl g5) rfl ?_
      refine g_iload_n (q := 2) C dX11_kin_27 rfl rfl ?_
      refine g_callV (p := (8 + 2 * ix x1)) (As := [.int x2]) C dX11_kin_28 ml_X11_189 yv_f0_isKinOf ⟨rfl, rfl⟩ ⟨Nat.le_of_ble_eq_true rfl, Nat.le_of_ble_eq_true rfl⟩ (hpC (kboxC (a := 7) rfl g5) rfl) (kboxC (a := 7) rfl g5) rfl rfl (Nat.le_of_ble_eq_true rfl) (ok_f0_isKinOf (8 + 2 * ix x1) x2 (kboxC (a := 7) rfl g5) h (tt_bind T)) ?_
      rintro _ _ ⟨r6, rfl, rfl, T⟩
      show G ΛC x 31 [(0, .ref 0), (1, .int x1), (2, .int x2)] [.int r6] h
      refine g_if_eq (tgt := 38) C dX11_kin_31 (by decide) (fun c7 => ?_) (fun c7 => ?_)
      · have T := tt_t T c7
        refine g_iconst (v := 0) C dX11_kin_38 (by decide) ?_
        exact g_iret C dX11_kin_39 (hR _ (tt_some T))
      · have T := tt_f T c7
        refine g_iconst (v := 1) C dX11_kin_34 (by decide) ?_
        refine g_goto (tgt := 39) C dX11_kin_35 (by decide) ?_
        exact g_iret C dX11_kin_39 (hR _ (tt_some T))
    · have T := tt_t T c4
      refine g_iconst (v := (-1)) C dX11_kin_16 (by decide) ?_
      exact g_iret C dX11_kin_17 (hR _ (tt_some T))

theorem ok_f11_kin {l : Launch} {K : Int32 → Prop} (x1 : Int32) (x2 : Int32) (h : Hp) (T : Tt (f11_kin x1 x2 h) K) : Ok ΛC l yX11_kin cX11_kin 3 (some .int) rm_f11_kin [.ref 0, .int x1, .int x2] h (PIs K h) :=
  Ok.of RX11 rfl (by decide) ⟨rfl, rfl⟩ (Nat.le_of_ble_eq_true rfl) (fun x C => k_f11_kin C x1 x2 h (fun v q => ⟨v, rfl, rfl, q⟩) T)

abbrev rm_f11_law : Room := { frames := 3, cells := 0, slots := 0, locals := 75 }
noncomputable def f11_law (x1 : Int32) (x2 : Int32) (h : Hp) : Option (Int64 × Hp) :=
  (f11_isBox x2 h).bind fun r1 => if r1 = 0 then (some ((-9223372036854775808), h)) else ((f11_isWithin x1 0 2).bind fun r3 => if r3 = 0 then (some ((-9223372036854775808), h)) else ((h.2.2 0 11).bind fun p5 => gd (decide (kdC p5 = 10)) <| gd (inb x2 6) <| (f5_worth (p5 + 14) x1 (8 + 2 * ix x2) (h.1 6 2) h).bind fun (r8, h9) => some (r8, h9)))
set_option maxRecDepth 100000 in
set_option maxHeartbeats 4000000 in
theorem k_f11_law {x : Mx} {l : Launch} {post0 : Option Value → Hp → Prop} (C : Cx ΛC x l RX11 cX11_law rm_f11_law (some .long) 3 post0) {K : Int64 × Hp → Prop} (x1 : Int32) (x2 : Int32) (h : Hp) (hR : ∀ (v : Int64) (h : Hp), K (v, h) → post0 (some (.long v)) h) (T : Tt (f11_law x1 x2 h) K) : G ΛC x 0 [(0, .ref 0), (1, .int x1), (2, .int x2)] [] h := by
  refine g_aload_n (q := 0) C dX11_law_0 rfl rfl ?_
  refine g_iload_n (q := 2) C dX11_law_1 rfl rfl ?_
  refine g_callV (p := 0) (As := [.int x2]) C dX11_law_2 ml_X11_129 yv_f11_isBox ⟨rfl, rfl⟩ ⟨Nat.le_of_ble_eq_true rfl, Nat.le_of_ble_eq_true rfl⟩ (hpC rfl rfl) rfl rfl rfl (Nat.le_of_ble_eq_true rfl) (ok_f11_isBox x2 h (tt_bind T)) ?_
  rintro _ _ ⟨r1, rfl, rfl, T⟩
  show G ΛC x 5 [(0, .ref 0), (1, .int x1), (2, .int x2)] [.int r1] h
  refine g_if_eq (tgt := 17) C dX11_law_5 (by decide) (fun c2 => ?_) (fun c2 => ?_)
  · have T := tt_t T c2
    refine g_ldc2 (v := (-9223372036854775808)) C dX11_law_17 kl_X11_192 ?_
    exact g_lret C dX11_law_20 (hR _ _ (tt_some T))
  · have T := tt_f T c2
    refine g_iload_n (q := 1) C dX11_law_8 rfl rfl ?_
    refine g_iconst (v := 0) C dX11_law_9 (by decide) ?_
    refine g_iconst (v := 2) C dX11_law_10 (by decide) ?_
    refine g_callS (As := [.int x1, .int 0, .int 2]) C dX11_law_11 ml_X11_170 ys_f11_isWithin ⟨rfl, rfl⟩ ⟨Nat.le_of_ble_eq_true rfl, Nat.le_of_ble_eq_true rfl⟩ rfl rfl (Nat.le_of_ble_eq_true rfl) (ok_f11_isWithin x1 0 2 h (tt_bind T)) ?_
    rintro _ _ ⟨r3, rfl, rfl, T⟩
    show G ΛC x 14 [(0, .ref 0), (1, .int x1), (2, .int x2)] [.int r3] h
    refine g_if_ne (tgt := 21) C dX11_law_14 (by decide) (fun c4 => ?_) (fun c4 => ?_)
    · have T := tt_f T c4
      refine g_aload_n (q := 0) C dX11_law_21 rfl rfl ?_
      obtain ⟨p5, ep5, T⟩ := tt_bind T
      obtain ⟨g6, T⟩ := tt_gd T
      have kp5 : kdC p5 = 10 := of_decide_eq_true g6
      refine g_getD (k := 11) (q := p5) C dX11_law_22 (hpC rfl rfl) rfl fl_X11_82 rfl ep5 ?_
      refine g_getF (k := 1) (q := p5 + 14) C dX11_law_25 (hpC kp5 rfl) kp5 fl_X11_194 rfl rfl ?_
      refine g_iload_n (q := 1) C dX11_law_28 rfl rfl ?_
      refine g_aload_n (q := 0) C dX11_law_29 rfl rfl ?_
      refine g_getF (k := 2) (q := 6) C dX11_law_30 (hpC rfl rfl) rfl fl_X11_30 rfl rfl ?_
      refine g_getF (k := 0) (q := 7) C dX11_law_33 (hpC rfl rfl) rfl fl_X11_140 rfl rfl ?_
      refine g_iload_n (q := 2) C dX11_law_36 rfl rfl ?_
      obtain ⟨g7, T⟩ := tt_gd T
      refine g_aald (q := 8 + 2 * ix x2) C dX11_law_37 (hpC rfl rfl) rfl (inb_of rfl g7) rfl ?_
      refine g_aload_n (q := 0) C dX11_law_38 rfl rfl ?_
      refine g_getF (k := 2) (q := 6) C dX11_law_39 (hpC rfl rfl) rfl fl_X11_30 rfl rfl ?_
      refine g_getI (k := 2) C dX11_law_42 (hpC rfl rfl) rfl fl_X11_198 rfl ?_
      refine g_callV (p := (p5 + 14)) (As := [.int x1, .ref (8 + 2 * ix x2), .int (h.1 6 2)]) C dX11_law_45 ml_X11_201 yv_f5_worth ⟨rfl, rfl⟩ ⟨Nat.le_of_ble_eq_true rfl, Nat.le_of_ble_eq_true rfl⟩ (hpC (kf_10_1 kp5) rfl) (kf_10_1 kp5) rfl rfl (Nat.le_of_ble_eq_true rfl) (ok_f5_worth (p5 + 14) x1 (8 + 2 * ix x2) (h.1 6 2) (kf_10_1 kp5) (kboxC (a := 7) rfl g7) h (tt_bind T)) ?_
      rintro _ h9 ⟨r8, rfl, T⟩
      show G ΛC x 48 [(0, .ref 0), (1, .int x1), (2, .int x2)] [.long r8] h9
      exact g_lret C dX11_law_48 (hR _ _ (tt_some T))
    · have T := tt_t T c4
      refine g_ldc2 (v := (-9223372036854775808)) C dX11_law_17 kl_X11_192 ?_
      exact g_lret C dX11_law_20 (hR _ _ (tt_some T))

theorem ok_f11_law {l : Launch} {K : Int64 × Hp → Prop} (x1 : Int32) (x2 : Int32) (h : Hp) (T : Tt (f11_law x1 x2 h) K) : Ok ΛC l yX11_law cX11_law 3 (some .long) rm_f11_law [.ref 0, .int x1, .int x2] h (PJw K) :=
  Ok.of RX11 rfl (by decide) ⟨rfl, rfl⟩ (Nat.le_of_ble_eq_true rfl) (fun x C => k_f11_law C x1 x2 h (fun v _ q => ⟨v, rfl, q⟩) T)

abbrev rm_f11_wind : Room := { frames := 2, cells := 0, slots := 0, locals := 43 }
noncomputable def f11_wind (x1 : Int32) (x2 : Int32) (h : Hp) : Option (Int32 × Hp) :=
  (f11_isBox x1 h).bind fun r1 => if r1 = 0 then (some ((-1), h)) else ((f11_isWithin x2 1 99).bind fun r3 => if r3 = 0 then (some ((-1), h)) else (gd (inb x1 6) <| lt (8 + 2 * ix x1) fun p6 => if h.1 p6 10 = 0 then (if h.1 p6 5 < 99 then ((f1_note x1 p6 h).bind fun h9 => lt (wI h9 p6 5 (if (h9.1 p6 5) + x2 < 99 then (h9.1 p6 5) + x2 else 99 : Int32)) fun h10 => some (h10.1 p6 5, h10)) else (some ((-2), h))) else (some ((-2), h))))
set_option maxRecDepth 100000 in
set_option maxHeartbeats 4000000 in
theorem k_f11_wind {x : Mx} {l : Launch} {post0 : Option Value → Hp → Prop} (C : Cx ΛC x l RX11 cX11_wind rm_f11_wind (some .int) 4 post0) {K : Int32 × Hp → Prop} (x1 : Int32) (x2 : Int32) (h : Hp) (hR : ∀ (v : Int32) (h : Hp), K (v, h) → post0 (some (.int v)) h) (T : Tt (f11_wind x1 x2 h) K) : G ΛC x 0 [(0, .ref 0), (1, .int x1), (2, .int x2)] [] h := by
  refine g_aload_n (q := 0) C dX11_wind_0 rfl rfl ?_
  refine g_iload_n (q := 1) C dX11_wind_1 rfl rfl ?_
  refine g_callV (p := 0) (As := [.int x1]) C dX11_wind_2 ml_X11_129 yv_f11_isBox ⟨rfl, rfl⟩ ⟨Nat.le_of_ble_eq_true rfl, Nat.le_of_ble_eq_true rfl⟩ (hpC rfl rfl) rfl rfl rfl (Nat.le_of_ble_eq_true rfl) (ok_f11_isBox x1 h (tt_bind T)) ?_
  rintro _ _ ⟨r1, rfl, rfl, T⟩
  show G ΛC x 5 [(0, .ref 0), (1, .int x1), (2, .int x2)] [.int r1] h
  refine g_if_eq (tgt := 18) C dX11_wind_5 (by decide) (fun c2 => ?_) (fun c2 => ?_)
  · have T := tt_t T c2
    refine g_iconst (v := (-1)) C dX11_wind_18 (by decide) ?_
    exact g_iret C dX11_wind_19 (hR _ _ (tt_some T))
  · have T := tt_f T c2
    refine g_iload_n (q := 2) C dX11_wind_8 rfl rfl ?_
    refine g_iconst (v := 1) C dX11_wind_9 (by decide) ?_
    refine g_bipush (v := 99) C dX11_wind_10 (by decide) ?_
    refine g_callS (As := [.int x2, .int 1, .int 99]) C dX11_wind_12 ml_X11_170 ys_f11_isWithin ⟨rfl, rfl⟩ ⟨Nat.le_of_ble_eq_true rfl, Nat.le_of_ble_eq_true rfl⟩ rfl rfl (Nat.le_of_ble_eq_true rfl) (ok_f11_isWithin x2 1 99 h (tt_bind T)) ?_
    rintro _ _ ⟨r3, rfl, rfl, T⟩
    show G ΛC x 15 [(0, .ref 0), (1, .int x1), (2, .int x2)] [.int r3] h
    refine g_if_ne (tgt := 20) C dX11_wind_15 (by decide) (fun c4 => ?_) (fun c4 => ?_)
    · have T := tt_f T c4
      refine g_aload_n (q := 0) C dX11_wind_20 rfl rfl ?_
      refine g_getF (k := 2) (q := 6) C dX11_wind_21 (hpC rfl rfl) rfl fl_X11_30 rfl rfl ?_
      refine g_getF (k := 0) (q := 7) C dX11_wind_24 (hpC rfl rfl) rfl fl_X11_140 rfl rfl ?_
      refine g_iload_n (q := 1) C dX11_wind_27 rfl rfl ?_
      obtain ⟨g5, T⟩ := tt_gd T
      refine g_aald (q := 8 + 2 * ix x1) C dX11_wind_28 (hpC rfl rfl) rfl (inb_of rfl g5) rfl ?_
      obtain ⟨p6, ep6, T⟩ := tt_lt T
      have kp6 : kdC p6 = 0 := by rw [ep6]; exact kboxC (a := 7) rfl g5
      refine g_nameR ep6 ?_
      refine g_astore_n (L' := [(3, .ref p6), (0, .ref 0), (1, .int x1), (2, .int x2)]) C dX11_wind_29 rfl (by decide) rfl ?_
      refine g_aload_n (q := 0) C dX11_wind_30 rfl rfl ?_
      refine g_getI (k := 10) C dX11_wind_31 (hpC kp6 rfl) kp6 fl_X11_159 rfl ?_
      refine g_if_ne (tgt := 46) C dX11_wind_34 (by decide) (fun c7 => ?_) (fun c7 => ?_)
      · have T := tt_f T c7
        refine g_bipush (v := (-2)) C dX11_wind_46 (by decide) ?_
        exact g_iret C dX11_wind_48 (hR _ _ (tt_some T))
      · have T := tt_t T c7
        refine g_aload_n (q := 0) C dX11_wind_37 rfl rfl ?_
        refine g_getI (k := 5) C dX11_wind_38 (hpC kp6 rfl) kp6 fl_X11_144 rfl ?_
        refine g_bipush (v := 99) C dX11_wind_41 (by decide) ?_
        refine g_icmp_lt (tgt := 49) C dX11_wind_43 (by decide) (fun c8 => ?_) (fun c8 => ?_)
        · have T := tt_t T c8
          refine g_aload_n (q := 1) C dX11_wind_49 rfl rfl ?_
          refine g_getF (k := 4) (q := 34) C dX11_wind_50 (hpC rfl rfl) rfl fl_X11_40 rfl rfl ?_
          refine g_iload_n (q := 2) C dX11_wind_53 rfl rfl ?_
          refine g_aload_n (q := 0) C dX11_wind_54 rfl rfl ?_
          refine g_callV (p := 34) (As := [.int x1, .ref p6]) C dX11_wind_55 ml_X11_207 yv_f1_note ⟨rfl, rfl⟩ ⟨Nat.le_of_ble_eq_true rfl, Nat.le_of_ble_eq_true rfl⟩ (hpC rfl rfl) rfl rfl rfl (Nat.le_of_ble_eq_true rfl) (ok_f1_note x1 p6 kp6 h (tt_bind T)) ?_
          rintro _ h9 ⟨rfl, T⟩
          show G ΛC x 58 [(3, .ref p6), (0, .ref 0), (1, .int x1), (2, .int x2)] [] h9
          refine g_aload_n (q := 0) C dX11_wind_58 rfl rfl ?_
          refine g_bipush (v := 99) C dX11_wind_59 (by decide) ?_
          refine g_aload_n (q := 0) C dX11_wind_61 rfl rfl ?_
          refine g_getI (k := 5) C dX11_wind_62 (hpC kp6 rfl) kp6 fl_X11_144 rfl ?_
          refine g_iload_n (q := 3) C dX11_wind_65 rfl rfl ?_
          refine g_iadd C dX11_wind_66 ?_
          refine g_mmin C dX11_wind_67 mm_X11_211 ms_min mi_math mc_min (Nat.le_of_ble_eq_true rfl) (Nat.le_of_ble_eq_true rfl) ?_
          obtain ⟨h10, eh10, T⟩ := tt_lt T
          refine g_putI (k := 5) C dX11_wind_70 (hpC kp6 rfl) kp6 fp_X11_144 rfl eh10 ?_
          refine g_aload_n (q := 0) C dX11_wind_73 rfl rfl ?_
          refine g_getI (k := 5) C dX11_wind_74 (hpC kp6 rfl) kp6 fl_X11_144 rfl ?_
          exact g_iret C dX11_wind_77 (hR _ _ (tt_some T))
        · have T := tt_f T c8
          refine g_bipush (v := (-2)) C dX11_wind_46 (by decide) ?_
          exact g_iret C dX11_wind_48 (hR _ _ (tt_some T))
    · have T := tt_t T c4
      refine g_iconst (v := (-1)) C dX11_wind_18 (by decide) ?_
      exact g_iret C dX11_wind_19 (hR _ _ (tt_some T))

theorem ok_f11_wind {l : Launch} {K : Int32 × Hp → Prop} (x1 : Int32) (x2 : Int32) (h : Hp) (T : Tt (f11_wind x1 x2 h) K) : Ok ΛC l yX11_wind cX11_wind 4 (some .int) rm_f11_wind [.ref 0, .int x1, .int x2] h (PIw K) :=
  Ok.of RX11 rfl (by decide) ⟨rfl, rfl⟩ (Nat.le_of_ble_eq_true rfl) (fun x C => k_f11_wind C x1 x2 h (fun v _ q => ⟨v, rfl, q⟩) T)

abbrev rm_f11_steal : Room := { frames := 2, cells := 0, slots := 0, locals := 43 }
noncomputable def f11_steal (x1 : Int32) (x2 : Int32) (h : Hp) : Option (Int32 × Hp) :=
  (f11_isBox x1 h).bind fun r1 => if r1 = 0 then (some (0, h)) else (gd (inb x1 6) <| if h.1 (8 + 2 * ix x1) 10 = x2 then (some (0, h)) else (gd (inb x1 6) <| (f1_note x1 (8 + 2 * ix x1) h).bind fun h6 => gd (inb x1 6) <| gd (bz x2) <| lt (wI h6 (8 + 2 * ix x1) 10 x2) fun h9 => some (1, h9)))
set_option maxRecDepth 100000 in
set_option maxHeartbeats 4000000 in
theorem k_f11_steal {x : Mx} {l : Launch} {post0 : Option Value → Hp → Prop} (C : Cx ΛC x l RX11 cX11_steal rm_f11_steal (some .boolean) 3 post0) {K : Int32 × Hp → Prop} (x1 : Int32) (x2 : Int32) (h : Hp) (hR : ∀ (v : Int32) (h : Hp), K (v, h) → post0 (some (.int v)) h) (T : Tt (f11_steal x1 x2 h) K) : G ΛC x 0 [(0, .ref 0), (1, .int x1), (2, .int x2)] [] h := by
  refine g_aload_n (q := 0) C dX11_steal_0 rfl rfl ?_
  refine g_iload_n (q := 1) C dX11_steal_1 rfl rfl ?_
  refine g_callV (p := 0) (As := [.int x1]) C dX11_steal_2 ml_X11_129 yv_f11_isBox ⟨rfl, rfl⟩ ⟨Nat.le_of_ble_eq_true rfl, Nat.le_of_ble_eq_true rfl⟩ (hpC rfl rfl) rfl rfl rfl (Nat.le_of_ble_eq_true rfl) (ok_f11_isBox x1 h (tt_bind T)) ?_
  rintro _ _ ⟨r1, rfl, rfl, T⟩
  show G ΛC x 5 [(0, .ref 0), (1, .int x1), (2, .int x2)] [.int r1] h
  refine g_if_eq (tgt := 24) C dX11_steal_5 (by decide) (fun c2 => ?_) (fun c2 => ?_)
  · have T := tt_t T c2
    refine g_iconst (v := 0) C dX11_steal_24 (by decide) ?_
    exact g_zret C dX11_steal_25 (Or.inl rfl) (hR _ _ (tt_some T))
  · have T := tt_f T c2
    refine g_aload_n (q := 0) C dX11_steal_8 rfl rfl ?_
    refine g_getF (k := 2) (q := 6) C dX11_steal_9 (hpC rfl rfl) rfl fl_X11_30 rfl rfl ?_
    refine g_getF (k := 0) (q := 7) C dX11_steal_12 (hpC rfl rfl) rfl fl_X11_140 rfl rfl ?_
    refine g_iload_n (q := 1) C dX11_steal_15 rfl rfl ?_
    obtain ⟨g3, T⟩ := tt_gd T
    refine g_aald (q := 8 + 2 * ix x1) C dX11_steal_16 (hpC rfl rfl) rfl (inb_of rfl g3) rfl ?_
    refine g_getI (k := 10) C dX11_steal_17 (hpC (kboxC (a := 7) rfl g3) rfl) (kboxC (a := 7) rfl g3) fl_X11_159 rfl ?_
    refine g_iload_n (q := 2) C dX11_steal_20 rfl rfl ?_
    refine g_icmp_ne (tgt := 26) C dX11_steal_21 (by decide) (fun c4 => ?_) (fun c4 => ?_)
    · have T := tt_f T c4
      refine g_aload_n (q := 0) C dX11_steal_26 rfl rfl ?_
      refine g_getF (k := 4) (q := 34) C dX11_steal_27 (hpC rfl rfl) rfl fl_X11_40 rfl rfl ?_
      refine g_iload_n (q := 1) C dX11_steal_30 rfl rfl ?_
      refine g_aload_n (q := 0) C dX11_steal_31 rfl rfl ?_
      refine g_getF (k := 2) (q := 6) C dX11_steal_32 (hpC rfl rfl) rfl fl_X11_30 rfl rfl ?_
      refine g_getF (k := 0) (q := 7) C dX11_steal_35 (hpC rfl rfl) rfl fl_X11_140 rfl rfl ?_
      refine g_iload_n (q := 1) C dX11_steal_38 rfl rfl ?_
      obtain ⟨g5, T⟩ := tt_gd T
      refine g_aald (q := 8 + 2 * ix x1) C dX11_steal_39 (hpC rfl rfl) rfl (inb_of rfl g5) rfl ?_
      refine g_callV (p := 34) (As := [.int x1, .ref (8 + 2 * ix x1)]) C dX11_steal_40 ml_X11_207 yv_f1_note ⟨rfl, rfl⟩ ⟨Nat.le_of_ble_eq_true rfl, Nat.le_of_ble_eq_true rfl⟩ (hpC rfl rfl) rfl rfl rfl (Nat.le_of_ble_eq_true rfl) (ok_f1_note x1 (8 + 2 * ix x1) (kboxC (a := 7) rfl g5) h (tt_bind T)) ?_
      rintro _ h6 ⟨rfl, T⟩
      show G ΛC x 43 [(0, .ref 0), (1, .int x1), (2, .int x2)] [] h6
      refine g_aload_n (q := 0) C dX11_steal_43 rfl rfl ?_
      refine g_getF (k := 2) (q := 6) C dX11_steal_44 (hpC rfl rfl) rfl fl_X11_30 rfl rfl ?_
      refine g_getF (k := 0) (q := 7) C dX11_steal_47 (hpC rfl rfl) rfl fl_X11_140 rfl rfl ?_
      refine g_iload_n (q := 1) C dX11_steal_50 rfl rfl ?_
      obtain ⟨g7, T⟩ := tt_gd T
      refine g_aald (q := 8 + 2 * ix x1) C dX11_steal_51 (hpC rfl rfl) rfl (inb_of rfl g7) rfl ?_
      refine g_iload_n (q := 2) C dX11_steal_52 rfl rfl ?_
      obtain ⟨g8, T⟩ := tt_gd T
      obtain ⟨h9, eh9, T⟩ := tt_lt T
      refine g_putZ (k := 10) C dX11_steal_53 (hpC (kboxC (a := 7) rfl g7) rfl) (kboxC (a := 7) rfl g7) fp_X11_159 rfl (bz_or g8) eh9 ?_
      refine g_iconst (v := 1) C dX11_steal_56 (by decide) ?_
      exact g_zret C dX11_steal_57 (Or.inr rfl) (hR _ _ (tt_some T))
    · have T := tt_t T c4
      refine g_iconst (v := 0) C dX11_steal_24 (by decide) ?_
      exact g_zret C dX11_steal_25 (Or.inl rfl) (hR _ _ (tt_some T))

theorem ok_f11_steal {l : Launch} {K : Int32 × Hp → Prop} (x1 : Int32) (x2 : Int32) (h : Hp) (T : Tt (f11_steal x1 x2 h) K) : Ok ΛC l yX11_steal cX11_steal 3 (some .boolean) rm_f11_steal [.ref 0, .int x1, .int x2] h (PIw K) :=
  Ok.of RX11 rfl (by decide) ⟨rfl, rfl⟩ (Nat.le_of_ble_eq_true rfl) (fun x C => k_f11_steal C x1 x2 h (fun v _ q => ⟨v, rfl, q⟩) T)

abbrev rm_f11_tooth : Room := { frames := 2, cells := 0, slots := 0, locals := 43 }
noncomputable def f11_tooth (x1 : Int32) (x2 : Int32) (x3 : Int32) (h : Hp) : Option (Int32 × Hp) :=
  (f11_isBox x1 h).bind fun r1 => if r1 = 0 then (some (0, h)) else ((f11_isWithin x2 1 9).bind fun r3 => if r3 = 0 then (some (0, h)) else (gd (inb x1 6) <| lt (8 + 2 * ix x1) fun p6 => (f0_misses p6 x2 h).bind fun r7 => if r7 = x3 then (some (0, h)) else ((f1_note x1 p6 h).bind fun h9 => lt (wI h9 p6 9 ((h9.1 p6 9) ^^^ (1 <<< (x2 &&& 31)))) fun h10 => some (1, h10))))
set_option maxRecDepth 100000 in
set_option maxHeartbeats 4000000 in
theorem k_f11_tooth {x : Mx} {l : Launch} {post0 : Option Value → Hp → Prop} (C : Cx ΛC x l RX11 cX11_tooth rm_f11_tooth (some .boolean) 5 post0) {K : Int32 × Hp → Prop} (x1 : Int32) (x2 : Int32) (x3 : Int32) (h : Hp) (hR : ∀ (v : Int32) (h : Hp), K (v, h) → post0 (some (.int v)) h) (T : Tt (f11_tooth x1 x2 x3 h) K) : G ΛC x 0 [(0, .ref 0), (1, .int x1), (2, .int x2), (3, .int x3)] [] h := by
  refine g_aload_n (q := 0) C dX11_tooth_0 rfl rfl ?_
  refine g_iload_n (q := 1) C dX11_tooth_1 rfl rfl ?_
  refine g_callV (p := 0) (As := [.int x1]) C dX11_tooth_2 ml_X11_129 yv_f11_isBox ⟨rfl, rfl⟩ ⟨Nat.le_of_ble_eq_true rfl, Nat.le_of_ble_eq_true rfl⟩ (hpC rfl rfl) rfl rfl rfl (Nat.le_of_ble_eq_true rfl) (ok_f11_isBox x1 h (tt_bind T)) ?_
  rintro _ _ ⟨r1, rfl, rfl, T⟩
  show G ΛC x 5 [(0, .ref 0), (1, .int x1), (2, .int x2), (3, .int x3)] [.int r1] h
  refine g_if_eq (tgt := 18) C dX11_tooth_5 (by decide) (fun c2 => ?_) (fun c2 => ?_)
  · have T := tt_t T c2
    refine g_iconst (v := 0) C dX11_tooth_18 (by decide) ?_
    exact g_zret C dX11_tooth_19 (Or.inl rfl) (hR _ _ (tt_some T))
  · have T := tt_f T c2
    refine g_iload_n (q := 2) C dX11_tooth_8 rfl rfl ?_
    refine g_iconst (v := 1) C dX11_tooth_9 (by decide) ?_
    refine g_bipush (v := 9) C dX11_tooth_10 (by decide) ?_
    refine g_callS (As := [.int x2, .int 1, .int 9]) C dX11_tooth_12 ml_X11_170 ys_f11_isWithin ⟨rfl, rfl⟩ ⟨Nat.le_of_ble_eq_true rfl, Nat.le_of_ble_eq_true rfl⟩ rfl rfl (Nat.le_of_ble_eq_true rfl) (ok_f11_isWithin x2 1 9 h (tt_bind T)) ?_
    rintro _ _ ⟨r3, rfl, rfl, T⟩
    show G ΛC x 15 [(0, .ref 0), (1, .int x1), (2, .int x2), (3, .int x3)] [.int r3] h
    refine g_if_ne (tgt := 20) C dX11_tooth_15 (by decide) (fun c4 => ?_) (fun c4 => ?_)
    · have T := tt_f T c4
      refine g_aload_n (q := 0) C dX11_tooth_20 rfl rfl ?_
      refine g_getF (k := 2) (q := 6) C dX11_tooth_21 (hpC rfl rfl) rfl fl_X11_30 rfl rfl ?_
      refine g_getF (k := 0) (q := 7) C dX11_tooth_24 (hpC rfl rfl) rfl fl_X11_140 rfl rfl ?_
      refine g_iload_n (q := 1) C dX11_tooth_27 rfl rfl ?_
      obtain ⟨g5, T⟩ := tt_gd T
      refine g_aald (q := 8 + 2 * ix x1) C dX11_tooth_28 (hpC rfl rfl) rfl (inb_of rfl g5) rfl ?_
      obtain ⟨p6, ep6, T⟩ := tt_lt T
      have kp6 : kdC p6 = 0 := by rw [ep6]; exact kboxC (a := 7) rfl g5
      refine g_nameR ep6 ?_
      refine g_astore (L' := [(4, .ref p6), (0, .ref 0), (1, .int x1), (2, .int x2), (3, .int x3)]) C dX11_tooth_29 (by decide) rfl ?_
      refine g_aload (q := 0) C dX11_tooth_31 rfl ?_
      refine g_iload_n (q := 3) C dX11_tooth_33 rfl rfl ?_
      refine g_callV (p := p6) (As := [.int x2]) C dX11_tooth_34 ml_X11_217 yv_f0_misses ⟨rfl, rfl⟩ ⟨Nat.le_of_ble_eq_true rfl, Nat.le_of_ble_eq_true rfl⟩ (hpC kp6 rfl) kp6 rfl rfl (Nat.le_of_ble_eq_true rfl) (ok_f0_misses p6 x2 kp6 h (tt_bind T)) ?_
      rintro _ _ ⟨r7, rfl, rfl, T⟩
      show G ΛC x 37 [(4, .ref p6), (0, .ref 0), (1, .int x1), (2, .int x2), (3, .int x3)] [.int r7] h
      refine g_iload_n (q := 4) C dX11_tooth_37 rfl rfl ?_
      refine g_icmp_ne (tgt := 43) C dX11_tooth_38 (by decide) (fun c8 => ?_) (fun c8 => ?_)
      · have T := tt_f T c8
        refine g_aload_n (q := 1) C dX11_tooth_43 rfl rfl ?_
        refine g_getF (k := 4) (q := 34) C dX11_tooth_44 (hpC rfl rfl) rfl fl_X11_40 rfl rfl ?_
        refine g_iload_n (q := 2) C dX11_tooth_47 rfl rfl ?_
        refine g_aload (q := 0) C dX11_tooth_48 rfl ?_
        refine g_callV (p := 34) (As := [.int x1, .ref p6]) C dX11_tooth_50 ml_X11_207 yv_f1_note ⟨rfl, rfl⟩ ⟨Nat.le_of_ble_eq_true rfl, Nat.le_of_ble_eq_true rfl⟩ (hpC rfl rfl) rfl rfl rfl (Nat.le_of_ble_eq_true rfl) (ok_f1_note x1 p6 kp6 h (tt_bind T)) ?_
        rintro _ h9 ⟨rfl, T⟩
        show G ΛC x 53 [(4, .ref p6), (0, .ref 0), (1, .int x1), (2, .int x2), (3, .int x3)] [] h9
        refine g_aload (q := 0) C dX11_tooth_53 rfl ?_
        refine g_dup C dX11_tooth_55 rfl ?_
        refine g_getI (k := 9) C dX11_tooth_56 (hpC kp6 rfl) kp6 fl_X11_162 rfl ?_
        refine g_iconst (v := 1) C dX11_tooth_59 (by decide) ?_
        refine g_iload_n (q := 3) C dX11_tooth_60 rfl rfl ?_
        refine g_ishl C dX11_tooth_61 ?_
        refine g_ixor C dX11_tooth_62 ?_
        obtain ⟨h10, eh10, T⟩ := tt_lt T
        refine g_putI (k := 9) C dX11_tooth_63 (hpC kp6 rfl) kp6 fp_X11_162 rfl eh10 ?_
        refine g_iconst (v := 1) C dX11_tooth_66 (by decide) ?_
        exact g_zret C dX11_tooth_67 (Or.inr rfl) (hR _ _ (tt_some T))
      · have T := tt_t T c8
        refine g_iconst (v := 0) C dX11_tooth_41 (by decide) ?_
        exact g_zret C dX11_tooth_42 (Or.inl rfl) (hR _ _ (tt_some T))
    · have T := tt_t T c4
      refine g_iconst (v := 0) C dX11_tooth_18 (by decide) ?_
      exact g_zret C dX11_tooth_19 (Or.inl rfl) (hR _ _ (tt_some T))

theorem ok_f11_tooth {l : Launch} {K : Int32 × Hp → Prop} (x1 : Int32) (x2 : Int32) (x3 : Int32) (h : Hp) (T : Tt (f11_tooth x1 x2 x3 h) K) : Ok ΛC l yX11_tooth cX11_tooth 5 (some .boolean) rm_f11_tooth [.ref 0, .int x1, .int x2, .int x3] h (PIw K) :=
  Ok.of RX11 rfl (by decide) ⟨rfl, rfl⟩ (Nat.le_of_ble_eq_true rfl) (fun x C => k_f11_tooth C x1 x2 x3 h (fun v _ q => ⟨v, rfl, q⟩) T)

abbrev rm_f11_years : Room := { frames := 6, cells := 0, slots := 0, locals := 147 }
noncomputable def f11_years_62 (h : Hp) : Option (Int32 × Hp) :=
  some (h.1 6 2, h)
set_option maxRecDepth 100000 in
set_option maxHeartbeats 4000000 in
theorem k_f11_years_62 {x : Mx} {l : Launch} {post0 : Option Value → Hp → Prop} (C : Cx ΛC x l RX11 cX11_years rm_f11_years (some .int) 3 post0) {K : Int32 × Hp → Prop} (h : Hp) (hR : ∀ (v : Int32) (h : Hp), K (v, h) → post0 (some (.int v)) h) (T : Tt (f11_years_62 h) K) : G ΛC x 62 [(0, .ref 0)] [] h := by
  refine g_aload_n (q := 0) C dX11_years_62 rfl rfl ?_
  refine g_getF (k := 2) (q := 6) C dX11_years_63 (hpC rfl rfl) rfl fl_X11_30 rfl rfl ?_
  refine g_getI (k := 2) C dX11_years_66 (hpC rfl rfl) rfl fl_X11_198 rfl ?_
  exact g_iret C dX11_years_69 (hR _ _ (tt_some T))

noncomputable def f11_years_51 (x1 : Int32) (h : Hp) : Option (Int32 × Hp) :=
  if x1 ≤ 0 then (f11_years_62 h) else ((f1_clear h).bind fun h6 => f11_years_62 h6)
set_option maxRecDepth 100000 in
set_option maxHeartbeats 4000000 in
theorem k_f11_years_51 {x : Mx} {l : Launch} {post0 : Option Value → Hp → Prop} (C : Cx ΛC x l RX11 cX11_years rm_f11_years (some .int) 3 post0) {K : Int32 × Hp → Prop} (x1 : Int32) (h : Hp) (hR : ∀ (v : Int32) (h : Hp), K (v, h) → post0 (some (.int v)) h) (T : Tt (f11_years_51 x1 h) K) : G ΛC x 51 [(0, .ref 0), (1, .int x1)] [] h := by
  refine g_iload_n (q := 1) C dX11_years_51 rfl rfl ?_
  refine g_if_le (tgt := 62) C dX11_years_52 (by decide) (fun c5 => ?_) (fun c5 => ?_)
  · have T := tt_t T c5
    refine g_sub [0] rfl ?_
    exact k_f11_years_62 C h hR T
  · have T := tt_f T c5
    refine g_aload_n (q := 0) C dX11_years_55 rfl rfl ?_
    refine g_getF (k := 4) (q := 34) C dX11_years_56 (hpC rfl rfl) rfl fl_X11_40 rfl rfl ?_
    refine g_callV (p := 34) (As := []) C dX11_years_59 ml_X11_115 yv_f1_clear ⟨rfl, rfl⟩ ⟨Nat.le_of_ble_eq_true rfl, Nat.le_of_ble_eq_true rfl⟩ (hpC rfl rfl) rfl rfl rfl (Nat.le_of_ble_eq_true rfl) (ok_f1_clear h (tt_bind T)) ?_
    rintro _ h6 ⟨rfl, T⟩
    show G ΛC x 62 [(0, .ref 0), (1, .int x1)] [] h6
    refine g_sub [0] rfl ?_
    exact k_f11_years_62 C h6 hR T

noncomputable def f11_years_29_s (x1 : Int32) (x2 : Int32) (h : Hp) : Option ((Int32 × Hp) ⊕ (Int32 × Hp)) :=
  if x1 ≤ x2 then ((f11_years_51 x1 h).map (fun z => .inr (z))) else ((h.2.2 0 11).bind fun p7 => gd (decide (kdC p7 = 10)) <| (f9_goOneYear 6 p7 h).bind fun h9 => some (.inl (x2 + 1, h9)))
set_option maxRecDepth 100000 in
set_option maxHeartbeats 4000000 in
theorem k_f11_years_29_s {x : Mx} {l : Launch} {post0 : Option Value → Hp → Prop} (C : Cx ΛC x l RX11 cX11_years rm_f11_years (some .int) 3 post0) {K : (Int32 × Hp) ⊕ (Int32 × Hp) → Prop} (x1 : Int32) (x2 : Int32) (h : Hp) (hR : ∀ (v : Int32) (h : Hp), K (.inr (v, h)) → post0 (some (.int v)) h) (hL29 : ∀ (x2 : Int32) (h : Hp), K (.inl (x2, h)) → G ΛC x 29 [(0, .ref 0), (1, .int x1), (2, .int x2)] [] h) (T : Tt (f11_years_29_s x1 x2 h) K) : G ΛC x 29 [(0, .ref 0), (1, .int x1), (2, .int x2)] [] h := by
  refine g_iload_n (q := 2) C dX11_years_29 rfl rfl ?_
  refine g_iload_n (q := 1) C dX11_years_30 rfl rfl ?_
  refine g_icmp_ge (tgt := 51) C dX11_years_31 (by decide) (fun c4 => ?_) (fun c4 => ?_)
  · have T := tt_t T c4
    refine g_sub [0, 1] rfl ?_
    exact k_f11_years_51 C x1 h hR (tt_map T)
  · have T := tt_f T c4
    refine g_aload_n (q := 0) C dX11_years_34 rfl rfl ?_
    refine g_getF (k := 2) (q := 6) C dX11_years_35 (hpC rfl rfl) rfl fl_X11_30 rfl rfl ?_
    refine g_aload_n (q := 0) C dX11_years_38 rfl rfl ?_
    obtain ⟨p7, ep7, T⟩ := tt_bind T
    obtain ⟨g8, T⟩ := tt_gd T
    have kp7 : kdC p7 = 10 := of_decide_eq_true g8
    refine g_getD (k := 11) (q := p7) C dX11_years_39 (hpC rfl rfl) rfl fl_X11_82 rfl ep7 ?_
    refine g_callV (p := 6) (As := [.ref p7]) C dX11_years_42 ml_X11_220 yv_f9_goOneYear ⟨rfl, rfl⟩ ⟨Nat.le_of_ble_eq_true rfl, Nat.le_of_ble_eq_true rfl⟩ (hpC rfl rfl) rfl rfl rfl (Nat.le_of_ble_eq_true rfl) (ok_f9_goOneYear 6 p7 rfl kp7 h (tt_bind T)) ?_
    rintro _ h9 ⟨rfl, T⟩
    show G ΛC x 45 [(0, .ref 0), (1, .int x1), (2, .int x2)] [] h9
    refine g_iinc (v := x2 + 1) (q := 2) (L' := [(2, .int (x2 + 1)), (0, .ref 0), (1, .int x1)]) C dX11_years_45 rfl (by first | rfl | exact congrArg _ (by decide)) (by decide) rfl ?_
    refine g_goto (tgt := 29) C dX11_years_48 (by decide) ?_
    refine g_sub [1, 2, 0] rfl ?_
    exact hL29 _ _ (tt_some T)

noncomputable def f11_years_29 (x1 : Int32) (x2 : Int32) (h : Hp) : Option (Int32 × Hp) := lp (fun z : Int32 × Hp => f11_years_29_s x1 z.1 z.2) (x2, h)
theorem k_f11_years_29 {x : Mx} {l : Launch} {post0 : Option Value → Hp → Prop} (C : Cx ΛC x l RX11 cX11_years rm_f11_years (some .int) 3 post0) {K : Int32 × Hp → Prop} (x1 : Int32) (x2 : Int32) (h : Hp) (hR : ∀ (v : Int32) (h : Hp), K (v, h) → post0 (some (.int v)) h) (T : Tt (f11_years_29 x1 x2 h) K) : G ΛC x 29 [(0, .ref 0), (1, .int x1), (2, .int x2)] [] h :=
  lp_ind (f := fun z : Int32 × Hp => f11_years_29_s x1 z.1 z.2) (P := fun z : Int32 × Hp => G ΛC x 29 [(0, .ref 0), (1, .int x1), (2, .int z.1)] [] z.2) (K := K) (fun z T => k_f11_years_29_s C (K := KS (fun z : Int32 × Hp => G ΛC x 29 [(0, .ref 0), (1, .int x1), (2, .int z.1)] [] z.2) K) x1 z.1 z.2 hR (fun _ _ q => q) T) (x2, h) T
noncomputable def f11_years (x1 : Int32) (h : Hp) : Option (Int32 × Hp) :=
  (f11_isWithin x1 0 99).bind fun r1 => if r1 = 0 then (some ((-1), h)) else (if (h.1 6 2) + x1 ≤ 9900 then (f11_years_29 x1 0 h) else (some ((-1), h)))
set_option maxRecDepth 100000 in
set_option maxHeartbeats 4000000 in
theorem k_f11_years {x : Mx} {l : Launch} {post0 : Option Value → Hp → Prop} (C : Cx ΛC x l RX11 cX11_years rm_f11_years (some .int) 3 post0) {K : Int32 × Hp → Prop} (x1 : Int32) (h : Hp) (hR : ∀ (v : Int32) (h : Hp), K (v, h) → post0 (some (.int v)) h) (T : Tt (f11_years x1 h) K) : G ΛC x 0 [(0, .ref 0), (1, .int x1)] [] h := by
  refine g_iload_n (q := 1) C dX11_years_0 rfl rfl ?_
  refine g_iconst (v := 0) C dX11_years_1 (by decide) ?_
  refine g_bipush (v := 99) C dX11_years_2 (by decide) ?_
  refine g_callS (As := [.int x1, .int 0, .int 99]) C dX11_years_4 ml_X11_170 ys_f11_isWithin ⟨rfl, rfl⟩ ⟨Nat.le_of_ble_eq_true rfl, Nat.le_of_ble_eq_true rfl⟩ rfl rfl (Nat.le_of_ble_eq_true rfl) (ok_f11_isWithin x1 0 99 h (tt_bind T)) ?_
  rintro _ _ ⟨r1, rfl, rfl, T⟩
  show G ΛC x 7 [(0, .ref 0), (1, .int x1)] [.int r1] h
  refine g_if_eq (tgt := 25) C dX11_years_7 (by decide) (fun c2 => ?_) (fun c2 => ?_)
  · have T := tt_t T c2
    refine g_iconst (v := (-1)) C dX11_years_25 (by decide) ?_
    exact g_iret C dX11_years_26 (hR _ _ (tt_some T))
  · have T := tt_f T c2
    refine g_aload_n (q := 0) C dX11_years_10 rfl rfl ?_
    refine g_getF (k := 2) (q := 6) C dX11_years_11 (hpC rfl rfl) rfl fl_X11_30 rfl rfl ?_
    refine g_getI (k := 2) C dX11_years_14 (hpC rfl rfl) rfl fl_X11_198 rfl ?_
    refine g_iload_n (q := 1) C dX11_years_17 rfl rfl ?_
    refine g_iadd C dX11_years_18 ?_
    refine g_sipush (v := 9900) C dX11_years_19 (by decide) ?_
    refine g_icmp_le (tgt := 27) C dX11_years_22 (by decide) (fun c3 => ?_) (fun c3 => ?_)
    · have T := tt_t T c3
      refine g_iconst (v := 0) C dX11_years_27 (by decide) ?_
      refine g_istore_n (L' := [(2, .int 0), (0, .ref 0), (1, .int x1)]) C dX11_years_28 rfl (by decide) rfl ?_
      refine g_sub [1, 2, 0] rfl ?_
      exact k_f11_years_29 C x1 0 h hR T
    · have T := tt_f T c3
      refine g_iconst (v := (-1)) C dX11_years_25 (by decide) ?_
      exact g_iret C dX11_years_26 (hR _ _ (tt_some T))

theorem ok_f11_years {l : Launch} {K : Int32 × Hp → Prop} (x1 : Int32) (h : Hp) (T : Tt (f11_years x1 h) K) : Ok ΛC l yX11_years cX11_years 3 (some .int) rm_f11_years [.ref 0, .int x1] h (PIw K) :=
  Ok.of RX11 rfl (by decide) ⟨rfl, rfl⟩ (Nat.le_of_ble_eq_true rfl) (fun x C => k_f11_years C x1 h (fun v _ q => ⟨v, rfl, q⟩) T)

abbrev rm_f11_isDampAsItGoes : Room := { frames := 0, cells := 0, slots := 0, locals := 0 }
noncomputable def f11_isDampAsItGoes (h : Hp) : Option (Int32) :=
  (h.2.2 0 11).bind fun p1 => gd (decide (kdC p1 = 10)) <| if h.1 p1 9 < 50 then (some 0) else (some 1)
set_option maxRecDepth 100000 in
set_option maxHeartbeats 4000000 in
theorem k_f11_isDampAsItGoes {x : Mx} {l : Launch} {post0 : Option Value → Hp → Prop} (C : Cx ΛC x l RX11 cX11_isDampAsItGoes rm_f11_isDampAsItGoes (some .boolean) 1 post0) {K : Int32 → Prop} (h : Hp) (hR : ∀ v : Int32, K v → post0 (some (.int v)) h) (T : Tt (f11_isDampAsItGoes h) K) : G ΛC x 0 [(0, .ref 0)] [] h := by
  refine g_aload_n (q := 0) C dX11_isDampAsItGoes_0 rfl rfl ?_
  obtain ⟨p1, ep1, T⟩ := tt_bind T
  obtain ⟨g2, T⟩ := tt_gd T
  have kp1 : kdC p1 = 10 := of_decide_eq_true g2
  refine g_getD (k := 11) (q := p1) C dX11_isDampAsItGoes_1 (hpC rfl rfl) rfl fl_X11_82 rfl ep1 ?_
  refine g_getI (k := 9) C dX11_isDampAsItGoes_4 (hpC kp1 rfl) kp1 fl_X11_364 rfl ?_
  refine g_bipush (v := 50) C dX11_isDampAsItGoes_7 (by decide) ?_
  refine g_icmp_lt (tgt := 16) C dX11_isDampAsItGoes_9 (by decide) (fun c3 => ?_) (fun c3 => ?_)
  · have T := tt_t T c3
    refine g_iconst (v := 0) C dX11_isDampAsItGoes_16 (by decide) ?_
    exact g_zret C dX11_isDampAsItGoes_17 (Or.inl rfl) (hR _ (tt_some T))
  · have T := tt_f T c3
    refine g_iconst (v := 1) C dX11_isDampAsItGoes_12 (by decide) ?_
    refine g_goto (tgt := 17) C dX11_isDampAsItGoes_13 (by decide) ?_
    exact g_zret C dX11_isDampAsItGoes_17 (Or.inr rfl) (hR _ (tt_some T))

theorem ok_f11_isDampAsItGoes {l : Launch} {K : Int32 → Prop} (h : Hp) (T : Tt (f11_isDampAsItGoes h) K) : Ok ΛC l yX11_isDampAsItGoes cX11_isDampAsItGoes 1 (some .boolean) rm_f11_isDampAsItGoes [.ref 0] h (PIs K h) :=
  Ok.of RX11 rfl (by decide) ⟨rfl, rfl⟩ (Nat.le_of_ble_eq_true rfl) (fun x C => k_f11_isDampAsItGoes C h (fun v q => ⟨v, rfl, rfl, q⟩) T)

abbrev rm_f11_goOnTrial : Room := { frames := 5, cells := 0, slots := 0, locals := 124 }
noncomputable def f11_goOnTrial_2_s (x1 : Int32) (x2 : Int32) (x3 : Int32) (h : Hp) : Option ((Int32 × Hp) ⊕ (Hp)) :=
  if x1 ≤ x3 then (some (.inr (h))) else ((h.2.2 0 11).bind fun p2 => gd (decide (kdC p2 = 10)) <| (f11_isDampAsItGoes h).bind fun r4 => (f0_goOneYear 51 (p2 + 14) ((h.1 6 2) + x3) r4 x2 h).bind fun h5 => some (.inl (x3 + 1, h5)))
set_option maxRecDepth 100000 in
set_option maxHeartbeats 4000000 in
theorem k_f11_goOnTrial_2_s {x : Mx} {l : Launch} {post0 : Option Value → Hp → Prop} (C : Cx ΛC x l RX11 cX11_goOnTrial rm_f11_goOnTrial none 4 post0) {K : (Int32 × Hp) ⊕ (Hp) → Prop} (x1 : Int32) (x2 : Int32) (x3 : Int32) (h : Hp) (hR : ∀ h : Hp, K (.inr h) → post0 none h) (hL2 : ∀ (x3 : Int32) (h : Hp), K (.inl (x3, h)) → G ΛC x 2 [(0, .ref 0), (1, .int x1), (2, .int x2), (3, .int x3)] [] h) (T : Tt (f11_goOnTrial_2_s x1 x2 x3 h) K) : G ΛC x 2 [(0, .ref 0), (1, .int x1), (2, .int x2), (3, .int x3)] [] h := by
  refine g_iload_n (q := 3) C dX11_goOnTrial_2 rfl rfl ?_
  refine g_iload_n (q := 1) C dX11_goOnTrial_3 rfl rfl ?_
  refine g_icmp_ge (tgt := 41) C dX11_goOnTrial_4 (by decide) (fun c1 => ?_) (fun c1 => ?_)
  · have T := tt_t T c1
    exact g_vret C dX11_goOnTrial_41 (hR _ (tt_some T))
  · have T := tt_f T c1
    refine g_aload_n (q := 0) C dX11_goOnTrial_7 rfl rfl ?_
    refine g_getF (k := 8) (q := 51) C dX11_goOnTrial_8 (hpC rfl rfl) rfl fl_X11_68 rfl rfl ?_
    refine g_aload_n (q := 0) C dX11_goOnTrial_11 rfl rfl ?_
    obtain ⟨p2, ep2, T⟩ := tt_bind T
    obtain ⟨g3, T⟩ := tt_gd T
    have kp2 : kdC p2 = 10 := of_decide_eq_true g3
    refine g_getD (k := 11) (q := p2) C dX11_goOnTrial_12 (hpC rfl rfl) rfl fl_X11_82 rfl ep2 ?_
    refine g_getF (k := 1) (q := p2 + 14) C dX11_goOnTrial_15 (hpC kp2 rfl) kp2 fl_X11_194 rfl rfl ?_
    refine g_aload_n (q := 0) C dX11_goOnTrial_18 rfl rfl ?_
    refine g_getF (k := 2) (q := 6) C dX11_goOnTrial_19 (hpC rfl rfl) rfl fl_X11_30 rfl rfl ?_
    refine g_getI (k := 2) C dX11_goOnTrial_22 (hpC rfl rfl) rfl fl_X11_198 rfl ?_
    refine g_iload_n (q := 3) C dX11_goOnTrial_25 rfl rfl ?_
    refine g_iadd C dX11_goOnTrial_26 ?_
    refine g_aload_n (q := 0) C dX11_goOnTrial_27 rfl rfl ?_
    refine g_callV (p := 0) (As := []) C dX11_goOnTrial_28 ml_X11_279 yv_f11_isDampAsItGoes ⟨rfl, rfl⟩ ⟨Nat.le_of_ble_eq_true rfl, Nat.le_of_ble_eq_true rfl⟩ (hpC rfl rfl) rfl rfl rfl (Nat.le_of_ble_eq_true rfl) (ok_f11_isDampAsItGoes h (tt_bind T)) ?_
    rintro _ _ ⟨r4, rfl, rfl, T⟩
    show G ΛC x 31 [(0, .ref 0), (1, .int x1), (2, .int x2), (3, .int x3)] [.int r4, .int ((h.1 6 2) + x3), .ref (p2 + 14), .ref 51] h
    refine g_iload_n (q := 2) C dX11_goOnTrial_31 rfl rfl ?_
    refine g_callV (p := 51) (As := [.ref (p2 + 14), .int ((h.1 6 2) + x3), .int r4, .int x2]) C dX11_goOnTrial_32 ml_X11_282 yv_f0_goOneYear ⟨rfl, rfl⟩ ⟨Nat.le_of_ble_eq_true rfl, Nat.le_of_ble_eq_true rfl⟩ (hpC rfl rfl) rfl rfl rfl (Nat.le_of_ble_eq_true rfl) (ok_f0_goOneYear 51 (p2 + 14) ((h.1 6 2) + x3) r4 x2 rfl (kf_10_1 kp2) h (tt_bind T)) ?_
    rintro _ h5 ⟨rfl, T⟩
    show G ΛC x 35 [(0, .ref 0), (1, .int x1), (2, .int x2), (3, .int x3)] [] h5
    refine g_iinc (v := x3 + 1) (q := 3) (L' := [(3, .int (x3 + 1)), (0, .ref 0), (1, .int x1), (2, .int x2)]) C dX11_goOnTrial_35 rfl (by first | rfl | exact congrArg _ (by decide)) (by decide) rfl ?_
    refine g_goto (tgt := 2) C dX11_goOnTrial_38 (by decide) ?_
    refine g_sub [1, 2, 3, 0] rfl ?_
    exact hL2 _ _ (tt_some T)

noncomputable def f11_goOnTrial_2 (x1 : Int32) (x2 : Int32) (x3 : Int32) (h : Hp) : Option (Hp) := lp (fun z : Int32 × Hp => f11_goOnTrial_2_s x1 x2 z.1 z.2) (x3, h)
theorem k_f11_goOnTrial_2 {x : Mx} {l : Launch} {post0 : Option Value → Hp → Prop} (C : Cx ΛC x l RX11 cX11_goOnTrial rm_f11_goOnTrial none 4 post0) {K : Hp → Prop} (x1 : Int32) (x2 : Int32) (x3 : Int32) (h : Hp) (hR : ∀ h : Hp, K h → post0 none h) (T : Tt (f11_goOnTrial_2 x1 x2 x3 h) K) : G ΛC x 2 [(0, .ref 0), (1, .int x1), (2, .int x2), (3, .int x3)] [] h :=
  lp_ind (f := fun z : Int32 × Hp => f11_goOnTrial_2_s x1 x2 z.1 z.2) (P := fun z : Int32 × Hp => G ΛC x 2 [(0, .ref 0), (1, .int x1), (2, .int x2), (3, .int z.1)] [] z.2) (K := K) (fun z T => k_f11_goOnTrial_2_s C (K := KS (fun z : Int32 × Hp => G ΛC x 2 [(0, .ref 0), (1, .int x1), (2, .int x2), (3, .int z.1)] [] z.2) K) x1 x2 z.1 z.2 hR (fun _ _ q => q) T) (x3, h) T
noncomputable def f11_goOnTrial (x1 : Int32) (x2 : Int32) (h : Hp) : Option (Hp) :=
  f11_goOnTrial_2 x1 x2 0 h
set_option maxRecDepth 100000 in
set_option maxHeartbeats 4000000 in
theorem k_f11_goOnTrial {x : Mx} {l : Launch} {post0 : Option Value → Hp → Prop} (C : Cx ΛC x l RX11 cX11_goOnTrial rm_f11_goOnTrial none 4 post0) {K : Hp → Prop} (x1 : Int32) (x2 : Int32) (h : Hp) (hR : ∀ h : Hp, K h → post0 none h) (T : Tt (f11_goOnTrial x1 x2 h) K) : G ΛC x 0 [(0, .ref 0), (1, .int x1), (2, .int x2)] [] h := by
  refine g_iconst (v := 0) C dX11_goOnTrial_0 (by decide) ?_
  refine g_istore_n (L' := [(3, .int 0), (0, .ref 0), (1, .int x1), (2, .int x2)]) C dX11_goOnTrial_1 rfl (by decide) rfl ?_
  refine g_sub [1, 2, 3, 0] rfl ?_
  exact k_f11_goOnTrial_2 C x1 x2 0 h hR T

theorem ok_f11_goOnTrial {l : Launch} {K : Hp → Prop} (x1 : Int32) (x2 : Int32) (h : Hp) (T : Tt (f11_goOnTrial x1 x2 h) K) : Ok ΛC l yX11_goOnTrial cX11_goOnTrial 4 none rm_f11_goOnTrial [.ref 0, .int x1, .int x2] h (PVw K) :=
  Ok.of RX11 rfl (by decide) ⟨rfl, rfl⟩ (Nat.le_of_ble_eq_true rfl) (fun x C => k_f11_goOnTrial C x1 x2 h (fun _ q => ⟨rfl, q⟩) T)

abbrev rm_f11_ahead : Room := { frames := 6, cells := 0, slots := 0, locals := 147 }
noncomputable def f11_ahead_61 (x3 : Int32) (x4 : Nat) (s0 : Int32) (s1 : Int32) (h : Hp) : Option (Int32 × Hp) :=
  (f11_goOnTrial s1 s0 h).bind fun h11 => if x3 = 0 then (some (h11.1 51 5, h11)) else if x3 = 1 then (some (h11.1 51 6, h11)) else if x3 = 2 then (some ((h11.1 51 8) - (h11.1 x4 8), h11)) else (some ((h11.1 51 7) - (h11.1 x4 7), h11))
set_option maxRecDepth 100000 in
set_option maxHeartbeats 4000000 in
theorem k_f11_ahead_61 {x : Mx} {l : Launch} {post0 : Option Value → Hp → Prop} (C : Cx ΛC x l RX11 cX11_ahead rm_f11_ahead (some .int) 5 post0) {K : Int32 × Hp → Prop} (x3 : Int32) (x4 : Nat) (s0 : Int32) (s1 : Int32) (kx4 : kdC x4 = 0) (h : Hp) (hR : ∀ (v : Int32) (h : Hp), K (v, h) → post0 (some (.int v)) h) (T : Tt (f11_ahead_61 x3 x4 s0 s1 h) K) : G ΛC x 61 [(0, .ref 0), (3, .int x3), (4, .ref x4)] [.int s0, .int s1, .ref 0] h := by
  refine g_callV (p := 0) (As := [.int s1, .int s0]) C dX11_ahead_61 ml_X11_227 yv_f11_goOnTrial ⟨rfl, rfl⟩ ⟨Nat.le_of_ble_eq_true rfl, Nat.le_of_ble_eq_true rfl⟩ (hpC rfl rfl) rfl rfl rfl (Nat.le_of_ble_eq_true rfl) (ok_f11_goOnTrial s1 s0 h (tt_bind T)) ?_
  rintro _ h11 ⟨rfl, T⟩
  show G ΛC x 64 [(0, .ref 0), (3, .int x3), (4, .ref x4)] [] h11
  refine g_iload_n (q := 1) C dX11_ahead_64 rfl rfl ?_
  by_cases c12 : x3 = 0
  · have T := tt_t T c12
    refine g_tableIn (tgt := 92) C dX11_ahead_65 (by rw [c12]; decide) (by rw [c12]; decide) (by rw [c12]; rfl) (by decide) ?_
    refine g_aload_n (q := 0) C dX11_ahead_92 rfl rfl ?_
    refine g_getF (k := 8) (q := 51) C dX11_ahead_93 (hpC rfl rfl) rfl fl_X11_68 rfl rfl ?_
    refine g_getI (k := 5) C dX11_ahead_96 (hpC rfl rfl) rfl fl_X11_144 rfl ?_
    exact g_iret C dX11_ahead_99 (hR _ _ (tt_some T))
  · have T := tt_f T c12
    by_cases c13 : x3 = 1
    · have T := tt_t T c13
      refine g_tableIn (tgt := 100) C dX11_ahead_65 (by rw [c13]; decide) (by rw [c13]; decide) (by rw [c13]; rfl) (by decide) ?_
      refine g_aload_n (q := 0) C dX11_ahead_100 rfl rfl ?_
      refine g_getF (k := 8) (q := 51) C dX11_ahead_101 (hpC rfl rfl) rfl fl_X11_68 rfl rfl ?_
      refine g_getI (k := 6) C dX11_ahead_104 (hpC rfl rfl) rfl fl_X11_150 rfl ?_
      exact g_iret C dX11_ahead_107 (hR _ _ (tt_some T))
    · have T := tt_f T c13
      by_cases c14 : x3 = 2
      · have T := tt_t T c14
        refine g_tableIn (tgt := 108) C dX11_ahead_65 (by rw [c14]; decide) (by rw [c14]; decide) (by rw [c14]; rfl) (by decide) ?_
        refine g_aload_n (q := 0) C dX11_ahead_108 rfl rfl ?_
        refine g_getF (k := 8) (q := 51) C dX11_ahead_109 (hpC rfl rfl) rfl fl_X11_68 rfl rfl ?_
        refine g_getI (k := 8) C dX11_ahead_112 (hpC rfl rfl) rfl fl_X11_156 rfl ?_
        refine g_aload (q := 2) C dX11_ahead_115 rfl ?_
        refine g_getI (k := 8) C dX11_ahead_117 (hpC kx4 rfl) kx4 fl_X11_156 rfl ?_
        refine g_isub C dX11_ahead_120 ?_
        exact g_iret C dX11_ahead_121 (hR _ _ (tt_some T))
      · have T := tt_f T c14
        have zc12 := ne32 c12
        have zc13 := ne32 c13
        have zc14 := ne32 c14
        rw [show ((0 : Int32)).toInt = 0 from by decide] at zc12
        rw [show ((1 : Int32)).toInt = 1 from by decide] at zc13
        rw [show ((2 : Int32)).toInt = 2 from by decide] at zc14
        refine g_tableOut (tgt := 122) C dX11_ahead_65 (by omega) (by decide) ?_
        refine g_aload_n (q := 0) C dX11_ahead_122 rfl rfl ?_
        refine g_getF (k := 8) (q := 51) C dX11_ahead_123 (hpC rfl rfl) rfl fl_X11_68 rfl rfl ?_
        refine g_getI (k := 7) C dX11_ahead_126 (hpC rfl rfl) rfl fl_X11_153 rfl ?_
        refine g_aload (q := 2) C dX11_ahead_129 rfl ?_
        refine g_getI (k := 7) C dX11_ahead_131 (hpC kx4 rfl) kx4 fl_X11_153 rfl ?_
        refine g_isub C dX11_ahead_134 ?_
        exact g_iret C dX11_ahead_135 (hR _ _ (tt_some T))

noncomputable def f11_ahead (x1 : Int32) (x2 : Int32) (x3 : Int32) (h : Hp) : Option (Int32 × Hp) :=
  (f11_isBox x1 h).bind fun r1 => if r1 = 0 then (some ((-1), h)) else ((f11_isWithin x2 0 99).bind fun r3 => if r3 = 0 then (some ((-1), h)) else ((f11_isWithin x3 0 3).bind fun r5 => if r5 = 0 then (some ((-1), h)) else (gd (inb x1 6) <| lt (8 + 2 * ix x1) fun p8 => (f0_copyOf 51 p8 h).bind fun h9 => if x3 = 2 then (f11_ahead_61 x3 p8 1 x2 h9) else (f11_ahead_61 x3 p8 0 x2 h9))))
set_option maxRecDepth 100000 in
set_option maxHeartbeats 4000000 in
theorem k_f11_ahead {x : Mx} {l : Launch} {post0 : Option Value → Hp → Prop} (C : Cx ΛC x l RX11 cX11_ahead rm_f11_ahead (some .int) 5 post0) {K : Int32 × Hp → Prop} (x1 : Int32) (x2 : Int32) (x3 : Int32) (h : Hp) (hR : ∀ (v : Int32) (h : Hp), K (v, h) → post0 (some (.int v)) h) (T : Tt (f11_ahead x1 x2 x3 h) K) : G ΛC x 0 [(0, .ref 0), (1, .int x1), (2, .int x2), (3, .int x3)] [] h := by
  refine g_aload_n (q := 0) C dX11_ahead_0 rfl rfl ?_
  refine g_iload_n (q := 1) C dX11_ahead_1 rfl rfl ?_
  refine g_callV (p := 0) (As := [.int x1]) C dX11_ahead_2 ml_X11_129 yv_f11_isBox ⟨rfl, rfl⟩ ⟨Nat.le_of_ble_eq_true rfl, Nat.le_of_ble_eq_true rfl⟩ (hpC rfl rfl) rfl rfl rfl (Nat.le_of_ble_eq_true rfl) (ok_f11_isBox x1 h (tt_bind T)) ?_
  rintro _ _ ⟨r1, rfl, rfl, T⟩
  show G ΛC x 5 [(0, .ref 0), (1, .int x1), (2, .int x2), (3, .int x3)] [.int r1] h
  refine g_if_eq (tgt := 27) C dX11_ahead_5 (by decide) (fun c2 => ?_) (fun c2 => ?_)
  · have T := tt_t T c2
    refine g_iconst (v := (-1)) C dX11_ahead_27 (by decide) ?_
    exact g_iret C dX11_ahead_28 (hR _ _ (tt_some T))
  · have T := tt_f T c2
    refine g_iload_n (q := 2) C dX11_ahead_8 rfl rfl ?_
    refine g_iconst (v := 0) C dX11_ahead_9 (by decide) ?_
    refine g_bipush (v := 99) C dX11_ahead_10 (by decide) ?_
    refine g_callS (As := [.int x2, .int 0, .int 99]) C dX11_ahead_12 ml_X11_170 ys_f11_isWithin ⟨rfl, rfl⟩ ⟨Nat.le_of_ble_eq_true rfl, Nat.le_of_ble_eq_true rfl⟩ rfl rfl (Nat.le_of_ble_eq_true rfl) (ok_f11_isWithin x2 0 99 h (tt_bind T)) ?_
    rintro _ _ ⟨r3, rfl, rfl, T⟩
    show G ΛC x 15 [(0, .ref 0), (1, .int x1), (2, .int x2), (3, .int x3)] [.int r3] h
    refine g_if_eq (tgt := 27) C dX11_ahead_15 (by decide) (fun c4 => ?_) (fun c4 => ?_)
    · have T := tt_t T c4
      refine g_iconst (v := (-1)) C dX11_ahead_27 (by decide) ?_
      exact g_iret C dX11_ahead_28 (hR _ _ (tt_some T))
    · have T := tt_f T c4
      refine g_iload_n (q := 3) C dX11_ahead_18 rfl rfl ?_
      refine g_iconst (v := 0) C dX11_ahead_19 (by decide) ?_
      refine g_iconst (v := 3) C dX11_ahead_20 (by decide) ?_
      refine g_callS (As := [.int x3, .int 0, .int 3]) C dX11_ahead_21 ml_X11_170 ys_f11_isWithin ⟨rfl, rfl⟩ ⟨Nat.le_of_ble_eq_true rfl, Nat.le_of_ble_eq_true rfl⟩ rfl rfl (Nat.le_of_ble_eq_true rfl) (ok_f11_isWithin x3 0 3 h (tt_bind T)) ?_
      rintro _ _ ⟨r5, rfl, rfl, T⟩
      show G ΛC x 24 [(0, .ref 0), (1, .int x1), (2, .int x2), (3, .int x3)] [.int r5] h
      refine g_if_ne (tgt := 29) C dX11_ahead_24 (by decide) (fun c6 => ?_) (fun c6 => ?_)
      · have T := tt_f T c6
        refine g_aload_n (q := 0) C dX11_ahead_29 rfl rfl ?_
        refine g_getF (k := 2) (q := 6) C dX11_ahead_30 (hpC rfl rfl) rfl fl_X11_30 rfl rfl ?_
        refine g_getF (k := 0) (q := 7) C dX11_ahead_33 (hpC rfl rfl) rfl fl_X11_140 rfl rfl ?_
        refine g_iload_n (q := 1) C dX11_ahead_36 rfl rfl ?_
        obtain ⟨g7, T⟩ := tt_gd T
        refine g_aald (q := 8 + 2 * ix x1) C dX11_ahead_37 (hpC rfl rfl) rfl (inb_of rfl g7) rfl ?_
        obtain ⟨p8, ep8, T⟩ := tt_lt T
        have kp8 : kdC p8 = 0 := by rw [ep8]; exact kboxC (a := 7) rfl g7
        refine g_nameR ep8 ?_
        refine g_astore (L' := [(4, .ref p8), (0, .ref 0), (1, .int x1), (2, .int x2), (3, .int x3)]) C dX11_ahead_38 (by decide) rfl ?_
        refine g_aload_n (q := 1) C dX11_ahead_40 rfl rfl ?_
        refine g_getF (k := 8) (q := 51) C dX11_ahead_41 (hpC rfl rfl) rfl fl_X11_68 rfl rfl ?_
        refine g_aload (q := 0) C dX11_ahead_44 rfl ?_
        refine g_callV (p := 51) (As := [.ref p8]) C dX11_ahead_46 ml_X11_223 yv_f0_copyOf ⟨rfl, rfl⟩ ⟨Nat.le_of_ble_eq_true rfl, Nat.le_of_ble_eq_true rfl⟩ (hpC rfl rfl) rfl rfl rfl (Nat.le_of_ble_eq_true rfl) (ok_f0_copyOf 51 p8 rfl kp8 h (tt_bind T)) ?_
        rintro _ h9 ⟨rfl, T⟩
        show G ΛC x 49 [(4, .ref p8), (0, .ref 0), (1, .int x1), (2, .int x2), (3, .int x3)] [] h9
        refine g_aload_n (q := 1) C dX11_ahead_49 rfl rfl ?_
        refine g_iload_n (q := 3) C dX11_ahead_50 rfl rfl ?_
        refine g_iload_n (q := 4) C dX11_ahead_51 rfl rfl ?_
        refine g_iconst (v := 2) C dX11_ahead_52 (by decide) ?_
        refine g_icmp_ne (tgt := 60) C dX11_ahead_53 (by decide) (fun c10 => ?_) (fun c10 => ?_)
        · have T := tt_f T c10
          refine g_iconst (v := 0) C dX11_ahead_60 (by decide) ?_
          refine g_sub [1, 4, 0] rfl ?_
          exact k_f11_ahead_61 C x3 p8 0 x2 kp8 h9 hR T
        · have T := tt_t T c10
          refine g_iconst (v := 1) C dX11_ahead_56 (by decide) ?_
          refine g_goto (tgt := 61) C dX11_ahead_57 (by decide) ?_
          refine g_sub [1, 4, 0] rfl ?_
          exact k_f11_ahead_61 C x3 p8 1 x2 kp8 h9 hR T
      · have T := tt_t T c6
        refine g_iconst (v := (-1)) C dX11_ahead_27 (by decide) ?_
        exact g_iret C dX11_ahead_28 (hR _ _ (tt_some T))

theorem ok_f11_ahead {l : Launch} {K : Int32 × Hp → Prop} (x1 : Int32) (x2 : Int32) (x3 : Int32) (h : Hp) (T : Tt (f11_ahead x1 x2 x3 h) K) : Ok ΛC l yX11_ahead cX11_ahead 5 (some .int) rm_f11_ahead [.ref 0, .int x1, .int x2, .int x3] h (PIw K) :=
  Ok.of RX11 rfl (by decide) ⟨rfl, rfl⟩ (Nat.le_of_ble_eq_true rfl) (fun x C => k_f11_ahead C x1 x2 x3 h (fun v _ q => ⟨v, rfl, q⟩) T)

abbrev rm_f11_alike : Room := { frames := 4, cells := 0, slots := 0, locals := 88 }
noncomputable def f11_alike (x1 : Int32) (x2 : Int32) (x3 : Int32) (h : Hp) : Option (Int32 × Hp) :=
  (f11_isBox x1 h).bind fun r1 => if r1 = 0 then (some ((-1), h)) else ((f11_isBox x2 h).bind fun r3 => if r3 = 0 then (some ((-1), h)) else ((f11_isWithin x3 0 7).bind fun r5 => if r5 = 0 then (some ((-1), h)) else ((f2_listen 6 h).bind fun h7 => (f2_alikeBy x1 x2 x3 h7).bind fun r8 => some (r8, h7))))
set_option maxRecDepth 100000 in
set_option maxHeartbeats 4000000 in
theorem k_f11_alike {x : Mx} {l : Launch} {post0 : Option Value → Hp → Prop} (C : Cx ΛC x l RX11 cX11_alike rm_f11_alike (some .int) 4 post0) {K : Int32 × Hp → Prop} (x1 : Int32) (x2 : Int32) (x3 : Int32) (h : Hp) (hR : ∀ (v : Int32) (h : Hp), K (v, h) → post0 (some (.int v)) h) (T : Tt (f11_alike x1 x2 x3 h) K) : G ΛC x 0 [(0, .ref 0), (1, .int x1), (2, .int x2), (3, .int x3)] [] h := by
  refine g_aload_n (q := 0) C dX11_alike_0 rfl rfl ?_
  refine g_iload_n (q := 1) C dX11_alike_1 rfl rfl ?_
  refine g_callV (p := 0) (As := [.int x1]) C dX11_alike_2 ml_X11_129 yv_f11_isBox ⟨rfl, rfl⟩ ⟨Nat.le_of_ble_eq_true rfl, Nat.le_of_ble_eq_true rfl⟩ (hpC rfl rfl) rfl rfl rfl (Nat.le_of_ble_eq_true rfl) (ok_f11_isBox x1 h (tt_bind T)) ?_
  rintro _ _ ⟨r1, rfl, rfl, T⟩
  show G ΛC x 5 [(0, .ref 0), (1, .int x1), (2, .int x2), (3, .int x3)] [.int r1] h
  refine g_if_eq (tgt := 26) C dX11_alike_5 (by decide) (fun c2 => ?_) (fun c2 => ?_)
  · have T := tt_t T c2
    refine g_iconst (v := (-1)) C dX11_alike_26 (by decide) ?_
    exact g_iret C dX11_alike_27 (hR _ _ (tt_some T))
  · have T := tt_f T c2
    refine g_aload_n (q := 0) C dX11_alike_8 rfl rfl ?_
    refine g_iload_n (q := 2) C dX11_alike_9 rfl rfl ?_
    refine g_callV (p := 0) (As := [.int x2]) C dX11_alike_10 ml_X11_129 yv_f11_isBox ⟨rfl, rfl⟩ ⟨Nat.le_of_ble_eq_true rfl, Nat.le_of_ble_eq_true rfl⟩ (hpC rfl rfl) rfl rfl rfl (Nat.le_of_ble_eq_true rfl) (ok_f11_isBox x2 h (tt_bind T)) ?_
    rintro _ _ ⟨r3, rfl, rfl, T⟩
    show G ΛC x 13 [(0, .ref 0), (1, .int x1), (2, .int x2), (3, .int x3)] [.int r3] h
    refine g_if_eq (tgt := 26) C dX11_alike_13 (by decide) (fun c4 => ?_) (fun c4 => ?_)
    · have T := tt_t T c4
      refine g_iconst (v := (-1)) C dX11_alike_26 (by decide) ?_
      exact g_iret C dX11_alike_27 (hR _ _ (tt_some T))
    · have T := tt_f T c4
      refine g_iload_n (q := 3) C dX11_alike_16 rfl rfl ?_
      refine g_iconst (v := 0) C dX11_alike_17 (by decide) ?_
      refine g_bipush (v := 7) C dX11_alike_18 (by decide) ?_
      refine g_callS (As := [.int x3, .int 0, .int 7]) C dX11_alike_20 ml_X11_170 ys_f11_isWithin ⟨rfl, rfl⟩ ⟨Nat.le_of_ble_eq_true rfl, Nat.le_of_ble_eq_true rfl⟩ rfl rfl (Nat.le_of_ble_eq_true rfl) (ok_f11_isWithin x3 0 7 h (tt_bind T)) ?_
      rintro _ _ ⟨r5, rfl, rfl, T⟩
      show G ΛC x 23 [(0, .ref 0), (1, .int x1), (2, .int x2), (3, .int x3)] [.int r5] h
      refine g_if_ne (tgt := 28) C dX11_alike_23 (by decide) (fun c6 => ?_) (fun c6 => ?_)
      · have T := tt_f T c6
        refine g_aload_n (q := 0) C dX11_alike_28 rfl rfl ?_
        refine g_getF (k := 6) (q := 45) C dX11_alike_29 (hpC rfl rfl) rfl fl_X11_54 rfl rfl ?_
        refine g_aload_n (q := 0) C dX11_alike_32 rfl rfl ?_
        refine g_getF (k := 2) (q := 6) C dX11_alike_33 (hpC rfl rfl) rfl fl_X11_30 rfl rfl ?_
        refine g_callV (p := 45) (As := [.ref 6]) C dX11_alike_36 ml_X11_231 yv_f2_listen ⟨rfl, rfl⟩ ⟨Nat.le_of_ble_eq_true rfl, Nat.le_of_ble_eq_true rfl⟩ (hpC rfl rfl) rfl rfl rfl (Nat.le_of_ble_eq_true rfl) (ok_f2_listen 6 rfl h (tt_bind T)) ?_
        rintro _ h7 ⟨rfl, T⟩
        show G ΛC x 39 [(0, .ref 0), (1, .int x1), (2, .int x2), (3, .int x3)] [] h7
        refine g_aload_n (q := 0) C dX11_alike_39 rfl rfl ?_
        refine g_getF (k := 6) (q := 45) C dX11_alike_40 (hpC rfl rfl) rfl fl_X11_54 rfl rfl ?_
        refine g_iload_n (q := 1) C dX11_alike_43 rfl rfl ?_
        refine g_iload_n (q := 2) C dX11_alike_44 rfl rfl ?_
        refine g_iload_n (q := 3) C dX11_alike_45 rfl rfl ?_
        refine g_callV (p := 45) (As := [.int x1, .int x2, .int x3]) C dX11_alike_46 ml_X11_235 yv_f2_alikeBy ⟨rfl, rfl⟩ ⟨Nat.le_of_ble_eq_true rfl, Nat.le_of_ble_eq_true rfl⟩ (hpC rfl rfl) rfl rfl rfl (Nat.le_of_ble_eq_true rfl) (ok_f2_alikeBy x1 x2 x3 h7 (tt_bind T)) ?_
        rintro _ _ ⟨r8, rfl, rfl, T⟩
        show G ΛC x 49 [(0, .ref 0), (1, .int x1), (2, .int x2), (3, .int x3)] [.int r8] h7
        exact g_iret C dX11_alike_49 (hR _ _ (tt_some T))
      · have T := tt_t T c6
        refine g_iconst (v := (-1)) C dX11_alike_26 (by decide) ?_
        exact g_iret C dX11_alike_27 (hR _ _ (tt_some T))

theorem ok_f11_alike {l : Launch} {K : Int32 × Hp → Prop} (x1 : Int32) (x2 : Int32) (x3 : Int32) (h : Hp) (T : Tt (f11_alike x1 x2 x3 h) K) : Ok ΛC l yX11_alike cX11_alike 4 (some .int) rm_f11_alike [.ref 0, .int x1, .int x2, .int x3] h (PIw K) :=
  Ok.of RX11 rfl (by decide) ⟨rfl, rfl⟩ (Nat.le_of_ble_eq_true rfl) (fun x C => k_f11_alike C x1 x2 x3 h (fun v _ q => ⟨v, rfl, q⟩) T)

abbrev rm_f11_like : Room := { frames := 4, cells := 0, slots := 0, locals := 88 }
noncomputable def f11_like_86 (x1 : Int32) (x2 : Int32) (x3 : Int32) (x4 : Int32) (h : Hp) : Option (Int32 × Hp) :=
  if x3 = 0 then (some (x4, h)) else ((f2_alikeBy x1 x2 x4 h).bind fun r10 => some (r10, h))
set_option maxRecDepth 100000 in
set_option maxHeartbeats 4000000 in
theorem k_f11_like_86 {x : Mx} {l : Launch} {post0 : Option Value → Hp → Prop} (C : Cx ΛC x l RX11 cX11_like rm_f11_like (some .int) 6 post0) {K : Int32 × Hp → Prop} (x1 : Int32) (x2 : Int32) (x3 : Int32) (x4 : Int32) (h : Hp) (hR : ∀ (v : Int32) (h : Hp), K (v, h) → post0 (some (.int v)) h) (T : Tt (f11_like_86 x1 x2 x3 x4 h) K) : G ΛC x 86 [(0, .ref 0), (1, .int x1), (2, .int x2), (3, .int x3), (4, .int x4)] [] h := by
  refine g_iload_n (q := 3) C dX11_like_86 rfl rfl ?_
  refine g_if_ne (tgt := 95) C dX11_like_87 (by decide) (fun c9 => ?_) (fun c9 => ?_)
  · have T := tt_f T c9
    refine g_aload_n (q := 0) C dX11_like_95 rfl rfl ?_
    refine g_getF (k := 6) (q := 45) C dX11_like_96 (hpC rfl rfl) rfl fl_X11_54 rfl rfl ?_
    refine g_iload_n (q := 1) C dX11_like_99 rfl rfl ?_
    refine g_iload_n (q := 2) C dX11_like_100 rfl rfl ?_
    refine g_iload (q := 4) C dX11_like_101 rfl ?_
    refine g_callV (p := 45) (As := [.int x1, .int x2, .int x4]) C dX11_like_103 ml_X11_235 yv_f2_alikeBy ⟨rfl, rfl⟩ ⟨Nat.le_of_ble_eq_true rfl, Nat.le_of_ble_eq_true rfl⟩ (hpC rfl rfl) rfl rfl rfl (Nat.le_of_ble_eq_true rfl) (ok_f2_alikeBy x1 x2 x4 h (tt_bind T)) ?_
    rintro _ _ ⟨r10, rfl, rfl, T⟩
    show G ΛC x 106 [(0, .ref 0), (1, .int x1), (2, .int x2), (3, .int x3), (4, .int x4)] [.int r10] h
    exact g_iret C dX11_like_106 (hR _ _ (tt_some T))
  · have T := tt_t T c9
    refine g_iload (q := 4) C dX11_like_90 rfl ?_
    refine g_goto (tgt := 106) C dX11_like_92 (by decide) ?_
    exact g_iret C dX11_like_106 (hR _ _ (tt_some T))

noncomputable def f11_like_80 (x1 : Int32) (x2 : Int32) (x3 : Int32) (x4 : Int32) (x5 : Int32) (h : Hp) : Option ((Int32 × Int32) ⊕ (Int32 × Hp)) :=
  some (.inl (x4, x5 + 1))
set_option maxRecDepth 100000 in
set_option maxHeartbeats 4000000 in
theorem k_f11_like_80 {x : Mx} {l : Launch} {post0 : Option Value → Hp → Prop} (C : Cx ΛC x l RX11 cX11_like rm_f11_like (some .int) 6 post0) {K : (Int32 × Int32) ⊕ (Int32 × Hp) → Prop} (x1 : Int32) (x2 : Int32) (x3 : Int32) (x4 : Int32) (x5 : Int32) (h : Hp) (hR : ∀ (v : Int32) (h : Hp), K (.inr (v, h)) → post0 (some (.int v)) h) (hL44 : ∀ (x4 : Int32) (x5 : Int32), K (.inl (x4, x5)) → G ΛC x 44 [(0, .ref 0), (1, .int x1), (2, .int x2), (3, .int x3), (4, .int x4), (5, .int x5)] [] h) (T : Tt (f11_like_80 x1 x2 x3 x4 x5 h) K) : G ΛC x 80 [(0, .ref 0), (1, .int x1), (2, .int x2), (3, .int x3), (4, .int x4), (5, .int x5)] [] h := by
  refine g_iinc (v := x5 + 1) (q := 5) (L' := [(5, .int (x5 + 1)), (0, .ref 0), (1, .int x1), (2, .int x2), (3, .int x3), (4, .int x4)]) C dX11_like_80 rfl (by first | rfl | exact congrArg _ (by decide)) (by decide) rfl ?_
  refine g_goto (tgt := 44) C dX11_like_83 (by decide) ?_
  refine g_sub [1, 2, 3, 4, 5, 0] rfl ?_
  exact hL44 _ _ (tt_some T)

noncomputable def f11_like_44_s (x1 : Int32) (x2 : Int32) (x3 : Int32) (x4 : Int32) (x5 : Int32) (h : Hp) : Option ((Int32 × Int32) ⊕ (Int32 × Hp)) :=
  if 8 ≤ x5 then ((f11_like_86 x1 x2 x3 x4 h).map (fun z => .inr (z))) else ((f2_alikeBy x1 x2 x5 h).bind fun r11 => (f2_alikeBy x1 x2 x4 h).bind fun r12 => if r11 ≤ r12 then (f11_like_80 x1 x2 x3 x4 x5 h) else (f11_like_80 x1 x2 x3 x5 x5 h))
set_option maxRecDepth 100000 in
set_option maxHeartbeats 4000000 in
theorem k_f11_like_44_s {x : Mx} {l : Launch} {post0 : Option Value → Hp → Prop} (C : Cx ΛC x l RX11 cX11_like rm_f11_like (some .int) 6 post0) {K : (Int32 × Int32) ⊕ (Int32 × Hp) → Prop} (x1 : Int32) (x2 : Int32) (x3 : Int32) (x4 : Int32) (x5 : Int32) (h : Hp) (hR : ∀ (v : Int32) (h : Hp), K (.inr (v, h)) → post0 (some (.int v)) h) (hL44 : ∀ (x4 : Int32) (x5 : Int32), K (.inl (x4, x5)) → G ΛC x 44 [(0, .ref 0), (1, .int x1), (2, .int x2), (3, .int x3), (4, .int x4), (5, .int x5)] [] h) (T : Tt (f11_like_44_s x1 x2 x3 x4 x5 h) K) : G ΛC x 44 [(0, .ref 0), (1, .int x1), (2, .int x2), (3, .int x3), (4, .int x4), (5, .int x5)] [] h := by
  refine g_iload (q := 5) C dX11_like_44 rfl ?_
  refine g_bipush (v := 8) C dX11_like_46 (by decide) ?_
  refine g_icmp_ge (tgt := 86) C dX11_like_48 (by decide) (fun c8 => ?_) (fun c8 => ?_)
  · have T := tt_t T c8
    refine g_sub [0, 1, 2, 3, 4] rfl ?_
    exact k_f11_like_86 C x1 x2 x3 x4 h hR (tt_map T)
  · have T := tt_f T c8
    refine g_aload_n (q := 0) C dX11_like_51 rfl rfl ?_
    refine g_getF (k := 6) (q := 45) C dX11_like_52 (hpC rfl rfl) rfl fl_X11_54 rfl rfl ?_
    refine g_iload_n (q := 1) C dX11_like_55 rfl rfl ?_
    refine g_iload_n (q := 2) C dX11_like_56 rfl rfl ?_
    refine g_iload (q := 5) C dX11_like_57 rfl ?_
    refine g_callV (p := 45) (As := [.int x1, .int x2, .int x5]) C dX11_like_59 ml_X11_235 yv_f2_alikeBy ⟨rfl, rfl⟩ ⟨Nat.le_of_ble_eq_true rfl, Nat.le_of_ble_eq_true rfl⟩ (hpC rfl rfl) rfl rfl rfl (Nat.le_of_ble_eq_true rfl) (ok_f2_alikeBy x1 x2 x5 h (tt_bind T)) ?_
    rintro _ _ ⟨r11, rfl, rfl, T⟩
    show G ΛC x 62 [(0, .ref 0), (1, .int x1), (2, .int x2), (3, .int x3), (4, .int x4), (5, .int x5)] [.int r11] h
    refine g_aload_n (q := 0) C dX11_like_62 rfl rfl ?_
    refine g_getF (k := 6) (q := 45) C dX11_like_63 (hpC rfl rfl) rfl fl_X11_54 rfl rfl ?_
    refine g_iload_n (q := 1) C dX11_like_66 rfl rfl ?_
    refine g_iload_n (q := 2) C dX11_like_67 rfl rfl ?_
    refine g_iload (q := 4) C dX11_like_68 rfl ?_
    refine g_callV (p := 45) (As := [.int x1, .int x2, .int x4]) C dX11_like_70 ml_X11_235 yv_f2_alikeBy ⟨rfl, rfl⟩ ⟨Nat.le_of_ble_eq_true rfl, Nat.le_of_ble_eq_true rfl⟩ (hpC rfl rfl) rfl rfl rfl (Nat.le_of_ble_eq_true rfl) (ok_f2_alikeBy x1 x2 x4 h (tt_bind T)) ?_
    rintro _ _ ⟨r12, rfl, rfl, T⟩
    show G ΛC x 73 [(0, .ref 0), (1, .int x1), (2, .int x2), (3, .int x3), (4, .int x4), (5, .int x5)] [.int r12, .int r11] h
    refine g_icmp_le (tgt := 80) C dX11_like_73 (by decide) (fun c13 => ?_) (fun c13 => ?_)
    · have T := tt_t T c13
      exact k_f11_like_80 C x1 x2 x3 x4 x5 h hR hL44 T
    · have T := tt_f T c13
      refine g_iload (q := 5) C dX11_like_76 rfl ?_
      refine g_istore (L' := [(4, .int x5), (0, .ref 0), (1, .int x1), (2, .int x2), (3, .int x3), (5, .int x5)]) C dX11_like_78 (by decide) rfl ?_
      refine g_sub [1, 2, 3, 4, 0, 5] rfl ?_
      exact k_f11_like_80 C x1 x2 x3 x5 x5 h hR hL44 T

noncomputable def f11_like_44 (x1 : Int32) (x2 : Int32) (x3 : Int32) (x4 : Int32) (x5 : Int32) (h : Hp) : Option (Int32 × Hp) := lp (fun z : Int32 × Int32 => f11_like_44_s x1 x2 x3 z.1 z.2 h) (x4, x5)
theorem k_f11_like_44 {x : Mx} {l : Launch} {post0 : Option Value → Hp → Prop} (C : Cx ΛC x l RX11 cX11_like rm_f11_like (some .int) 6 post0) {K : Int32 × Hp → Prop} (x1 : Int32) (x2 : Int32) (x3 : Int32) (x4 : Int32) (x5 : Int32) (h : Hp) (hR : ∀ (v : Int32) (h : Hp), K (v, h) → post0 (some (.int v)) h) (T : Tt (f11_like_44 x1 x2 x3 x4 x5 h) K) : G ΛC x 44 [(0, .ref 0), (1, .int x1), (2, .int x2), (3, .int x3), (4, .int x4), (5, .int x5)] [] h :=
  lp_ind (f := fun z : Int32 × Int32 => f11_like_44_s x1 x2 x3 z.1 z.2 h) (P := fun z : Int32 × Int32 => G ΛC x 44 [(0, .ref 0), (1, .int x1), (2, .int x2), (3, .int x3), (4, .int z.1), (5, .int z.2)] [] h) (K := K) (fun z T => k_f11_like_44_s C (K := KS (fun z : Int32 × Int32 => G ΛC x 44 [(0, .ref 0), (1, .int x1), (2, .int x2), (3, .int x3), (4, .int z.1), (5, .int z.2)] [] h) K) x1 x2 x3 z.1 z.2 h hR (fun _ _ q => q) T) (x4, x5) T
noncomputable def f11_like (x1 : Int32) (x2 : Int32) (x3 : Int32) (h : Hp) : Option (Int32 × Hp) :=
  (f11_isBox x1 h).bind fun r1 => if r1 = 0 then (some ((-1), h)) else ((f11_isBox x2 h).bind fun r3 => if r3 = 0 then (some ((-1), h)) else ((f11_isWithin x3 0 1).bind fun r5 => if r5 = 0 then (some ((-1), h)) else ((f2_listen 6 h).bind fun h7 => f11_like_44 x1 x2 x3 0 1 h7)))
set_option maxRecDepth 100000 in
set_option maxHeartbeats 4000000 in
theorem k_f11_like {x : Mx} {l : Launch} {post0 : Option Value → Hp → Prop} (C : Cx ΛC x l RX11 cX11_like rm_f11_like (some .int) 6 post0) {K : Int32 × Hp → Prop} (x1 : Int32) (x2 : Int32) (x3 : Int32) (h : Hp) (hR : ∀ (v : Int32) (h : Hp), K (v, h) → post0 (some (.int v)) h) (T : Tt (f11_like x1 x2 x3 h) K) : G ΛC x 0 [(0, .ref 0), (1, .int x1), (2, .int x2), (3, .int x3)] [] h := by
  refine g_aload_n (q := 0) C dX11_like_0 rfl rfl ?_
  refine g_iload_n (q := 1) C dX11_like_1 rfl rfl ?_
  refine g_callV (p := 0) (As := [.int x1]) C dX11_like_2 ml_X11_129 yv_f11_isBox ⟨rfl, rfl⟩ ⟨Nat.le_of_ble_eq_true rfl, Nat.le_of_ble_eq_true rfl⟩ (hpC rfl rfl) rfl rfl rfl (Nat.le_of_ble_eq_true rfl) (ok_f11_isBox x1 h (tt_bind T)) ?_
  rintro _ _ ⟨r1, rfl, rfl, T⟩
  show G ΛC x 5 [(0, .ref 0), (1, .int x1), (2, .int x2), (3, .int x3)] [.int r1] h
  refine g_if_eq (tgt := 25) C dX11_like_5 (by decide) (fun c2 => ?_) (fun c2 => ?_)
  · have T := tt_t T c2
    refine g_iconst (v := (-1)) C dX11_like_25 (by decide) ?_
    exact g_iret C dX11_like_26 (hR _ _ (tt_some T))
  · have T := tt_f T c2
    refine g_aload_n (q := 0) C dX11_like_8 rfl rfl ?_
    refine g_iload_n (q := 2) C dX11_like_9 rfl rfl ?_
    refine g_callV (p := 0) (As := [.int x2]) C dX11_like_10 ml_X11_129 yv_f11_isBox ⟨rfl, rfl⟩ ⟨Nat.le_of_ble_eq_true rfl, Nat.le_of_ble_eq_true rfl⟩ (hpC rfl rfl) rfl rfl rfl (Nat.le_of_ble_eq_true rfl) (ok_f11_isBox x2 h (tt_bind T)) ?_
    rintro _ _ ⟨r3, rfl, rfl, T⟩
    show G ΛC x 13 [(0, .ref 0), (1, .int x1), (2, .int x2), (3, .int x3)] [.int r3] h
    refine g_if_eq (tgt := 25) C dX11_like_13 (by decide) (fun c4 => ?_) (fun c4 => ?_)
    · have T := tt_t T c4
      refine g_iconst (v := (-1)) C dX11_like_25 (by decide) ?_
      exact g_iret C dX11_like_26 (hR _ _ (tt_some T))
    · have T := tt_f T c4
      refine g_iload_n (q := 3) C dX11_like_16 rfl rfl ?_
      refine g_iconst (v := 0) C dX11_like_17 (by decide) ?_
      refine g_iconst (v := 1) C dX11_like_18 (by decide) ?_
      refine g_callS (As := [.int x3, .int 0, .int 1]) C dX11_like_19 ml_X11_170 ys_f11_isWithin ⟨rfl, rfl⟩ ⟨Nat.le_of_ble_eq_true rfl, Nat.le_of_ble_eq_true rfl⟩ rfl rfl (Nat.le_of_ble_eq_true rfl) (ok_f11_isWithin x3 0 1 h (tt_bind T)) ?_
      rintro _ _ ⟨r5, rfl, rfl, T⟩
      show G ΛC x 22 [(0, .ref 0), (1, .int x1), (2, .int x2), (3, .int x3)] [.int r5] h
      refine g_if_ne (tgt := 27) C dX11_like_22 (by decide) (fun c6 => ?_) (fun c6 => ?_)
      · have T := tt_f T c6
        refine g_aload_n (q := 0) C dX11_like_27 rfl rfl ?_
        refine g_getF (k := 6) (q := 45) C dX11_like_28 (hpC rfl rfl) rfl fl_X11_54 rfl rfl ?_
        refine g_aload_n (q := 0) C dX11_like_31 rfl rfl ?_
        refine g_getF (k := 2) (q := 6) C dX11_like_32 (hpC rfl rfl) rfl fl_X11_30 rfl rfl ?_
        refine g_callV (p := 45) (As := [.ref 6]) C dX11_like_35 ml_X11_231 yv_f2_listen ⟨rfl, rfl⟩ ⟨Nat.le_of_ble_eq_true rfl, Nat.le_of_ble_eq_true rfl⟩ (hpC rfl rfl) rfl rfl rfl (Nat.le_of_ble_eq_true rfl) (ok_f2_listen 6 rfl h (tt_bind T)) ?_
        rintro _ h7 ⟨rfl, T⟩
        show G ΛC x 38 [(0, .ref 0), (1, .int x1), (2, .int x2), (3, .int x3)] [] h7
        refine g_iconst (v := 0) C dX11_like_38 (by decide) ?_
        refine g_istore (L' := [(4, .int 0), (0, .ref 0), (1, .int x1), (2, .int x2), (3, .int x3)]) C dX11_like_39 (by decide) rfl ?_
        refine g_iconst (v := 1) C dX11_like_41 (by decide) ?_
        refine g_istore (L' := [(5, .int 1), (4, .int 0), (0, .ref 0), (1, .int x1), (2, .int x2), (3, .int x3)]) C dX11_like_42 (by decide) rfl ?_
        refine g_sub [2, 3, 4, 5, 1, 0] rfl ?_
        exact k_f11_like_44 C x1 x2 x3 0 1 h7 hR T
      · have T := tt_t T c6
        refine g_iconst (v := (-1)) C dX11_like_25 (by decide) ?_
        exact g_iret C dX11_like_26 (hR _ _ (tt_some T))

theorem ok_f11_like {l : Launch} {K : Int32 × Hp → Prop} (x1 : Int32) (x2 : Int32) (x3 : Int32) (h : Hp) (T : Tt (f11_like x1 x2 x3 h) K) : Ok ΛC l yX11_like cX11_like 6 (some .int) rm_f11_like [.ref 0, .int x1, .int x2, .int x3] h (PIw K) :=
  Ok.of RX11 rfl (by decide) ⟨rfl, rfl⟩ (Nat.le_of_ble_eq_true rfl) (fun x C => k_f11_like C x1 x2 x3 h (fun v _ q => ⟨v, rfl, q⟩) T)

abbrev rm_f11_boxesThatFit : Room := { frames := 3, cells := 0, slots := 0, locals := 67 }
noncomputable def f11_boxesThatFit_59 (x1 : Int32) (x2 : Int32) (h : Hp) : Option ((Int32 × Int32) ⊕ (Int32 × Hp)) :=
  some (.inl (x1, x2 + 1))
set_option maxRecDepth 100000 in
set_option maxHeartbeats 4000000 in
theorem k_f11_boxesThatFit_59 {x : Mx} {l : Launch} {post0 : Option Value → Hp → Prop} (C : Cx ΛC x l RX11 cX11_boxesThatFit rm_f11_boxesThatFit (some .int) 3 post0) {K : (Int32 × Int32) ⊕ (Int32 × Hp) → Prop} (x1 : Int32) (x2 : Int32) (h : Hp) (hR : ∀ (v : Int32) (h : Hp), K (.inr (v, h)) → post0 (some (.int v)) h) (hL11 : ∀ (x1 : Int32) (x2 : Int32), K (.inl (x1, x2)) → G ΛC x 11 [(0, .ref 0), (1, .int x1), (2, .int x2)] [] h) (T : Tt (f11_boxesThatFit_59 x1 x2 h) K) : G ΛC x 59 [(0, .ref 0), (1, .int x1), (2, .int x2)] [] h := by
  refine g_iinc (v := x2 + 1) (q := 2) (L' := [(2, .int (x2 + 1)), (0, .ref 0), (1, .int x1)]) C dX11_boxesThatFit_59 rfl (by first | rfl | exact congrArg _ (by decide)) (by decide) rfl ?_
  refine g_goto (tgt := 11) C dX11_boxesThatFit_62 (by decide) ?_
  refine g_sub [1, 2, 0] rfl ?_
  exact hL11 _ _ (tt_some T)

noncomputable def f11_boxesThatFit_11_s (x1 : Int32) (x2 : Int32) (h : Hp) : Option ((Int32 × Int32) ⊕ (Int32 × Hp)) :=
  if h.1 6 1 ≤ x2 then (some (.inr (x1, h))) else (gd (inb x2 6) <| gd (inb x2 6) <| (f3_fit (8 + 2 * ix x2) (h.1 (8 + 2 * ix x2) 6) h).bind fun r5 => if r5 = 0 then (f11_boxesThatFit_59 x1 x2 h) else (lt (x1 ||| (1 <<< (x2 &&& 31))) fun v7 => f11_boxesThatFit_59 v7 x2 h))
set_option maxRecDepth 100000 in
set_option maxHeartbeats 4000000 in
theorem k_f11_boxesThatFit_11_s {x : Mx} {l : Launch} {post0 : Option Value → Hp → Prop} (C : Cx ΛC x l RX11 cX11_boxesThatFit rm_f11_boxesThatFit (some .int) 3 post0) {K : (Int32 × Int32) ⊕ (Int32 × Hp) → Prop} (x1 : Int32) (x2 : Int32) (h : Hp) (hR : ∀ (v : Int32) (h : Hp), K (.inr (v, h)) → post0 (some (.int v)) h) (hL11 : ∀ (x1 : Int32) (x2 : Int32), K (.inl (x1, x2)) → G ΛC x 11 [(0, .ref 0), (1, .int x1), (2, .int x2)] [] h) (T : Tt (f11_boxesThatFit_11_s x1 x2 h) K) : G ΛC x 11 [(0, .ref 0), (1, .int x1), (2, .int x2)] [] h := by
  refine g_iload_n (q := 2) C dX11_boxesThatFit_11 rfl rfl ?_
  refine g_aload_n (q := 0) C dX11_boxesThatFit_12 rfl rfl ?_
  refine g_getF (k := 2) (q := 6) C dX11_boxesThatFit_13 (hpC rfl rfl) rfl fl_X11_30 rfl rfl ?_
  refine g_getI (k := 1) C dX11_boxesThatFit_16 (hpC rfl rfl) rfl fl_X11_263 rfl ?_
  refine g_icmp_ge (tgt := 65) C dX11_boxesThatFit_19 (by decide) (fun c2 => ?_) (fun c2 => ?_)
  · have T := tt_t T c2
    refine g_iload_n (q := 1) C dX11_boxesThatFit_65 rfl rfl ?_
    exact g_iret C dX11_boxesThatFit_66 (hR _ _ (tt_some T))
  · have T := tt_f T c2
    refine g_aload_n (q := 0) C dX11_boxesThatFit_22 rfl rfl ?_
    refine g_getF (k := 5) (q := 39) C dX11_boxesThatFit_23 (hpC rfl rfl) rfl fl_X11_47 rfl rfl ?_
    refine g_aload_n (q := 0) C dX11_boxesThatFit_26 rfl rfl ?_
    refine g_getF (k := 2) (q := 6) C dX11_boxesThatFit_27 (hpC rfl rfl) rfl fl_X11_30 rfl rfl ?_
    refine g_getF (k := 0) (q := 7) C dX11_boxesThatFit_30 (hpC rfl rfl) rfl fl_X11_140 rfl rfl ?_
    refine g_iload_n (q := 2) C dX11_boxesThatFit_33 rfl rfl ?_
    obtain ⟨g3, T⟩ := tt_gd T
    refine g_aald (q := 8 + 2 * ix x2) C dX11_boxesThatFit_34 (hpC rfl rfl) rfl (inb_of rfl g3) rfl ?_
    refine g_aload_n (q := 0) C dX11_boxesThatFit_35 rfl rfl ?_
    refine g_getF (k := 2) (q := 6) C dX11_boxesThatFit_36 (hpC rfl rfl) rfl fl_X11_30 rfl rfl ?_
    refine g_getF (k := 0) (q := 7) C dX11_boxesThatFit_39 (hpC rfl rfl) rfl fl_X11_140 rfl rfl ?_
    refine g_iload_n (q := 2) C dX11_boxesThatFit_42 rfl rfl ?_
    obtain ⟨g4, T⟩ := tt_gd T
    refine g_aald (q := 8 + 2 * ix x2) C dX11_boxesThatFit_43 (hpC rfl rfl) rfl (inb_of rfl g4) rfl ?_
    refine g_getI (k := 6) C dX11_boxesThatFit_44 (hpC (kboxC (a := 7) rfl g4) rfl) (kboxC (a := 7) rfl g4) fl_X11_150 rfl ?_
    refine g_callV (p := 39) (As := [.ref (8 + 2 * ix x2), .int (h.1 (8 + 2 * ix x2) 6)]) C dX11_boxesThatFit_47 ml_X11_328 yv_f3_fit ⟨rfl, rfl⟩ ⟨Nat.le_of_ble_eq_true rfl, Nat.le_of_ble_eq_true rfl⟩ (hpC rfl rfl) rfl rfl rfl (Nat.le_of_ble_eq_true rfl) (ok_f3_fit (8 + 2 * ix x2) (h.1 (8 + 2 * ix x2) 6) (kboxC (a := 7) rfl g3) h (tt_bind T)) ?_
    rintro _ _ ⟨r5, rfl, rfl, T⟩
    show G ΛC x 50 [(0, .ref 0), (1, .int x1), (2, .int x2)] [.int r5] h
    refine g_if_eq (tgt := 59) C dX11_boxesThatFit_50 (by decide) (fun c6 => ?_) (fun c6 => ?_)
    · have T := tt_t T c6
      exact k_f11_boxesThatFit_59 C x1 x2 h hR hL11 T
    · have T := tt_f T c6
      refine g_iload_n (q := 1) C dX11_boxesThatFit_53 rfl rfl ?_
      refine g_iconst (v := 1) C dX11_boxesThatFit_54 (by decide) ?_
      refine g_iload_n (q := 2) C dX11_boxesThatFit_55 rfl rfl ?_
      refine g_ishl C dX11_boxesThatFit_56 ?_
      refine g_ior C dX11_boxesThatFit_57 ?_
      obtain ⟨v7, ev7, T⟩ := tt_lt T
      refine g_nameI ev7 ?_
      refine g_istore_n (L' := [(1, .int v7), (0, .ref 0), (2, .int x2)]) C dX11_boxesThatFit_58 rfl (by decide) rfl ?_
      refine g_sub [1, 0, 2] rfl ?_
      exact k_f11_boxesThatFit_59 C v7 x2 h hR hL11 T

noncomputable def f11_boxesThatFit_11 (x1 : Int32) (x2 : Int32) (h : Hp) : Option (Int32 × Hp) := lp (fun z : Int32 × Int32 => f11_boxesThatFit_11_s z.1 z.2 h) (x1, x2)
theorem k_f11_boxesThatFit_11 {x : Mx} {l : Launch} {post0 : Option Value → Hp → Prop} (C : Cx ΛC x l RX11 cX11_boxesThatFit rm_f11_boxesThatFit (some .int) 3 post0) {K : Int32 × Hp → Prop} (x1 : Int32) (x2 : Int32) (h : Hp) (hR : ∀ (v : Int32) (h : Hp), K (v, h) → post0 (some (.int v)) h) (T : Tt (f11_boxesThatFit_11 x1 x2 h) K) : G ΛC x 11 [(0, .ref 0), (1, .int x1), (2, .int x2)] [] h :=
  lp_ind (f := fun z : Int32 × Int32 => f11_boxesThatFit_11_s z.1 z.2 h) (P := fun z : Int32 × Int32 => G ΛC x 11 [(0, .ref 0), (1, .int z.1), (2, .int z.2)] [] h) (K := K) (fun z T => k_f11_boxesThatFit_11_s C (K := KS (fun z : Int32 × Int32 => G ΛC x 11 [(0, .ref 0), (1, .int z.1), (2, .int z.2)] [] h) K) z.1 z.2 h hR (fun _ _ q => q) T) (x1, x2) T
noncomputable def f11_boxesThatFit (h : Hp) : Option (Int32 × Hp) :=
  (f3_sift h).bind fun h1 => f11_boxesThatFit_11 0 0 h1
set_option maxRecDepth 100000 in
set_option maxHeartbeats 4000000 in
theorem k_f11_boxesThatFit {x : Mx} {l : Launch} {post0 : Option Value → Hp → Prop} (C : Cx ΛC x l RX11 cX11_boxesThatFit rm_f11_boxesThatFit (some .int) 3 post0) {K : Int32 × Hp → Prop} (h : Hp) (hR : ∀ (v : Int32) (h : Hp), K (v, h) → post0 (some (.int v)) h) (T : Tt (f11_boxesThatFit h) K) : G ΛC x 0 [(0, .ref 0)] [] h := by
  refine g_aload_n (q := 0) C dX11_boxesThatFit_0 rfl rfl ?_
  refine g_getF (k := 5) (q := 39) C dX11_boxesThatFit_1 (hpC rfl rfl) rfl fl_X11_47 rfl rfl ?_
  refine g_callV (p := 39) (As := []) C dX11_boxesThatFit_4 ml_X11_325 yv_f3_sift ⟨rfl, rfl⟩ ⟨Nat.le_of_ble_eq_true rfl, Nat.le_of_ble_eq_true rfl⟩ (hpC rfl rfl) rfl rfl rfl (Nat.le_of_ble_eq_true rfl) (ok_f3_sift h (tt_bind T)) ?_
  rintro _ h1 ⟨rfl, T⟩
  show G ΛC x 7 [(0, .ref 0)] [] h1
  refine g_iconst (v := 0) C dX11_boxesThatFit_7 (by decide) ?_
  refine g_istore_n (L' := [(1, .int 0), (0, .ref 0)]) C dX11_boxesThatFit_8 rfl (by decide) rfl ?_
  refine g_iconst (v := 0) C dX11_boxesThatFit_9 (by decide) ?_
  refine g_istore_n (L' := [(2, .int 0), (1, .int 0), (0, .ref 0)]) C dX11_boxesThatFit_10 rfl (by decide) rfl ?_
  refine g_sub [2, 1, 0] rfl ?_
  exact k_f11_boxesThatFit_11 C 0 0 h1 hR T

theorem ok_f11_boxesThatFit {l : Launch} {K : Int32 × Hp → Prop} (h : Hp) (T : Tt (f11_boxesThatFit h) K) : Ok ΛC l yX11_boxesThatFit cX11_boxesThatFit 3 (some .int) rm_f11_boxesThatFit [.ref 0] h (PIw K) :=
  Ok.of RX11 rfl (by decide) ⟨rfl, rfl⟩ (Nat.le_of_ble_eq_true rfl) (fun x C => k_f11_boxesThatFit C h (fun v _ q => ⟨v, rfl, q⟩) T)

abbrev rm_f11_whose : Room := { frames := 4, cells := 0, slots := 0, locals := 89 }
noncomputable def f11_whose (h : Hp) : Option (Int32 × Hp) :=
  (f11_boxesThatFit h).bind fun (r1, h2) => some (r1, h2)
set_option maxRecDepth 100000 in
set_option maxHeartbeats 4000000 in
theorem k_f11_whose {x : Mx} {l : Launch} {post0 : Option Value → Hp → Prop} (C : Cx ΛC x l RX11 cX11_whose rm_f11_whose (some .int) 1 post0) {K : Int32 × Hp → Prop} (h : Hp) (hR : ∀ (v : Int32) (h : Hp), K (v, h) → post0 (some (.int v)) h) (T : Tt (f11_whose h) K) : G ΛC x 0 [(0, .ref 0)] [] h := by
  refine g_aload_n (q := 0) C dX11_whose_0 rfl rfl ?_
  refine g_callV (p := 0) (As := []) C dX11_whose_1 ml_X11_239 yv_f11_boxesThatFit ⟨rfl, rfl⟩ ⟨Nat.le_of_ble_eq_true rfl, Nat.le_of_ble_eq_true rfl⟩ (hpC rfl rfl) rfl rfl rfl (Nat.le_of_ble_eq_true rfl) (ok_f11_boxesThatFit h (tt_bind T)) ?_
  rintro _ h2 ⟨r1, rfl, T⟩
  show G ΛC x 4 [(0, .ref 0)] [.int r1] h2
  exact g_iret C dX11_whose_4 (hR _ _ (tt_some T))

theorem ok_f11_whose {l : Launch} {K : Int32 × Hp → Prop} (h : Hp) (T : Tt (f11_whose h) K) : Ok ΛC l yX11_whose cX11_whose 1 (some .int) rm_f11_whose [.ref 0] h (PIw K) :=
  Ok.of RX11 rfl (by decide) ⟨rfl, rfl⟩ (Nat.le_of_ble_eq_true rfl) (fun x C => k_f11_whose C h (fun v _ q => ⟨v, rfl, q⟩) T)

abbrev rm_f11_kinThatHear : Room := { frames := 1, cells := 0, slots := 0, locals := 22 }
noncomputable def f11_kinThatHear_88 (x1 : Int32) (x2 : Int32) (x3 : Int32) (x4 : Int32) (x5 : Int32) (h : Hp) : Option ((Int32 × Int32) ⊕ (Int32)) :=
  some (.inl (x4, x5 + 1))
set_option maxRecDepth 100000 in
set_option maxHeartbeats 4000000 in
theorem k_f11_kinThatHear_88 {x : Mx} {l : Launch} {post0 : Option Value → Hp → Prop} (C : Cx ΛC x l RX11 cX11_kinThatHear rm_f11_kinThatHear (some .int) 7 post0) {K : (Int32 × Int32) ⊕ (Int32) → Prop} (x1 : Int32) (x2 : Int32) (x3 : Int32) (x4 : Int32) (x5 : Int32) (h : Hp) (hR : ∀ v : Int32, K (.inr v) → post0 (some (.int v)) h) (hL6 : ∀ (x4 : Int32) (x5 : Int32), K (.inl (x4, x5)) → G ΛC x 6 [(0, .ref 0), (1, .int x1), (2, .int x2), (3, .int x3), (4, .int x4), (5, .int x5)] [] h) (T : Tt (f11_kinThatHear_88 x1 x2 x3 x4 x5 h) K) : G ΛC x 88 [(0, .ref 0), (1, .int x1), (2, .int x2), (3, .int x3), (4, .int x4), (5, .int x5)] [] h := by
  refine g_iinc (v := x5 + 1) (q := 5) (L' := [(5, .int (x5 + 1)), (0, .ref 0), (1, .int x1), (2, .int x2), (3, .int x3), (4, .int x4)]) C dX11_kinThatHear_88 rfl (by first | rfl | exact congrArg _ (by decide)) (by decide) rfl ?_
  refine g_goto (tgt := 6) C dX11_kinThatHear_91 (by decide) ?_
  refine g_sub [1, 2, 3, 4, 5, 0] rfl ?_
  exact hL6 _ _ (tt_some T)

noncomputable def f11_kinThatHear_82 (x1 : Int32) (x2 : Int32) (x3 : Int32) (x4 : Int32) (x5 : Int32) (x6 : Int32) (h : Hp) : Option ((Int32 × Int32) ⊕ ((Int32 × Int32) ⊕ (Int32))) :=
  some (.inl (x4, x6 + 1))
set_option maxRecDepth 100000 in
set_option maxHeartbeats 4000000 in
theorem k_f11_kinThatHear_82 {x : Mx} {l : Launch} {post0 : Option Value → Hp → Prop} (C : Cx ΛC x l RX11 cX11_kinThatHear rm_f11_kinThatHear (some .int) 7 post0) {K : (Int32 × Int32) ⊕ ((Int32 × Int32) ⊕ (Int32)) → Prop} (x1 : Int32) (x2 : Int32) (x3 : Int32) (x4 : Int32) (x5 : Int32) (x6 : Int32) (h : Hp) (hR : ∀ v : Int32, K (.inr (.inr v)) → post0 (some (.int v)) h) (hL6 : ∀ (x4 : Int32) (x5 : Int32), K (.inr (.inl (x4, x5))) → G ΛC x 6 [(0, .ref 0), (1, .int x1), (2, .int x2), (3, .int x3), (4, .int x4), (5, .int x5)] [] h) (hL21 : ∀ (x4 : Int32) (x6 : Int32), K (.inl (x4, x6)) → G ΛC x 21 [(0, .ref 0), (1, .int x1), (2, .int x2), (3, .int x3), (4, .int x4), (5, .int x5), (6, .int x6)] [] h) (T : Tt (f11_kinThatHear_82 x1 x2 x3 x4 x5 x6 h) K) : G ΛC x 82 [(0, .ref 0), (1, .int x1), (2, .int x2), (3, .int x3), (4, .int x4), (5, .int x5), (6, .int x6)] [] h := by
  refine g_iinc (v := x6 + 1) (q := 6) (L' := [(6, .int (x6 + 1)), (0, .ref 0), (1, .int x1), (2, .int x2), (3, .int x3), (4, .int x4), (5, .int x5)]) C dX11_kinThatHear_82 rfl (by first | rfl | exact congrArg _ (by decide)) (by decide) rfl ?_
  refine g_goto (tgt := 21) C dX11_kinThatHear_85 (by decide) ?_
  refine g_sub [1, 2, 3, 4, 5, 6, 0] rfl ?_
  exact hL21 _ _ (tt_some T)

noncomputable def f11_kinThatHear_21_s (x1 : Int32) (x2 : Int32) (x3 : Int32) (x4 : Int32) (x5 : Int32) (x6 : Int32) (h : Hp) : Option ((Int32 × Int32) ⊕ ((Int32 × Int32) ⊕ (Int32))) :=
  if 8 ≤ x6 then ((f11_kinThatHear_88 x1 x2 x3 x4 x5 h).map (fun z => .inr (z))) else (gd (inb x1 6) <| (f0_isKinOf (8 + 2 * ix x1) x5 h).bind fun r4 => if r4 = 0 then ((f11_kinThatHear_88 x1 x2 x3 x4 x5 h).map (fun z => .inr (z))) else (gd (inb x1 6) <| gd (inb x6 8) <| if h.1 (8 + 2 * ix x1 + 1) (ix x6) = x2 then ((f2_at x5 x6 h).bind fun r9 => if r9 = x3 then (f11_kinThatHear_82 x1 x2 x3 (x4 + 1) x5 x6 h) else (f11_kinThatHear_82 x1 x2 x3 x4 x5 x6 h)) else (f11_kinThatHear_82 x1 x2 x3 x4 x5 x6 h)))
set_option maxRecDepth 100000 in
set_option maxHeartbeats 4000000 in
theorem k_f11_kinThatHear_21_s {x : Mx} {l : Launch} {post0 : Option Value → Hp → Prop} (C : Cx ΛC x l RX11 cX11_kinThatHear rm_f11_kinThatHear (some .int) 7 post0) {K : (Int32 × Int32) ⊕ ((Int32 × Int32) ⊕ (Int32)) → Prop} (x1 : Int32) (x2 : Int32) (x3 : Int32) (x4 : Int32) (x5 : Int32) (x6 : Int32) (h : Hp) (hR : ∀ v : Int32, K (.inr (.inr v)) → post0 (some (.int v)) h) (hL6 : ∀ (x4 : Int32) (x5 : Int32), K (.inr (.inl (x4, x5))) → G ΛC x 6 [(0, .ref 0), (1, .int x1), (2, .int x2), (3, .int x3), (4, .int x4), (5, .int x5)] [] h) (hL21 : ∀ (x4 : Int32) (x6 : Int32), K (.inl (x4, x6)) → G ΛC x 21 [(0, .ref 0), (1, .int x1), (2, .int x2), (3, .int x3), (4, .int x4), (5, .int x5), (6, .int x6)] [] h) (T : Tt (f11_kinThatHear_21_s x1 x2 x3 x4 x5 x6 h) K) : G ΛC x 21 [(0, .ref 0), (1, .int x1), (2, .int x2), (3, .int x3), (4, .int x4), (5, .int x5), (6, .int x6)] [] h := by
  refine g_iload (q := 6) C dX11_kinThatHear_21 rfl ?_
  refine g_bipush (v := 8) C dX11_kinThatHear_23 (by decide) ?_
  refine g_icmp_ge (tgt := 88) C dX11_kinThatHear_25 (by decide) (fun c2 => ?_) (fun c2 => ?_)
  · have T := tt_t T c2
    refine g_sub [0, 1, 2, 3, 4, 5] rfl ?_
    exact k_f11_kinThatHear_88 C x1 x2 x3 x4 x5 h hR hL6 (tt_map T)
  · have T := tt_f T c2
    refine g_aload_n (q := 0) C dX11_kinThatHear_28 rfl rfl ?_
    refine g_getF (k := 2) (q := 6) C dX11_kinThatHear_29 (hpC rfl rfl) rfl fl_X11_30 rfl rfl ?_
    refine g_getF (k := 0) (q := 7) C dX11_kinThatHear_32 (hpC rfl rfl) rfl fl_X11_140 rfl rfl ?_
    refine g_iload_n (q := 1) C dX11_kinThatHear_35 rfl rfl ?_
    obtain ⟨g3, T⟩ := tt_gd T
    refine g_aald (q := 8 + 2 * ix x1) C dX11_kinThatHear_36 (hpC rfl rfl) rfl (inb_of rfl g3) rfl ?_
    refine g_iload (q := 5) C dX11_kinThatHear_37 rfl ?_
    refine g_callV (p := (8 + 2 * ix x1)) (As := [.int x5]) C dX11_kinThatHear_39 ml_X11_189 yv_f0_isKinOf ⟨rfl, rfl⟩ ⟨Nat.le_of_ble_eq_true rfl, Nat.le_of_ble_eq_true rfl⟩ (hpC (kboxC (a := 7) rfl g3) rfl) (kboxC (a := 7) rfl g3) rfl rfl (Nat.le_of_ble_eq_true rfl) (ok_f0_isKinOf (8 + 2 * ix x1) x5 (kboxC (a := 7) rfl g3) h (tt_bind T)) ?_
    rintro _ _ ⟨r4, rfl, rfl, T⟩
    show G ΛC x 42 [(0, .ref 0), (1, .int x1), (2, .int x2), (3, .int x3), (4, .int x4), (5, .int x5), (6, .int x6)] [.int r4] h
    refine g_if_eq (tgt := 88) C dX11_kinThatHear_42 (by decide) (fun c5 => ?_) (fun c5 => ?_)
    · have T := tt_t T c5
      refine g_sub [0, 1, 2, 3, 4, 5] rfl ?_
      exact k_f11_kinThatHear_88 C x1 x2 x3 x4 x5 h hR hL6 (tt_map T)
    · have T := tt_f T c5
      refine g_aload_n (q := 0) C dX11_kinThatHear_45 rfl rfl ?_
      refine g_getF (k := 2) (q := 6) C dX11_kinThatHear_46 (hpC rfl rfl) rfl fl_X11_30 rfl rfl ?_
      refine g_getF (k := 0) (q := 7) C dX11_kinThatHear_49 (hpC rfl rfl) rfl fl_X11_140 rfl rfl ?_
      refine g_iload_n (q := 1) C dX11_kinThatHear_52 rfl rfl ?_
      obtain ⟨g6, T⟩ := tt_gd T
      refine g_aald (q := 8 + 2 * ix x1) C dX11_kinThatHear_53 (hpC rfl rfl) rfl (inb_of rfl g6) rfl ?_
      refine g_getF (k := 0) (q := 8 + 2 * ix x1 + 1) C dX11_kinThatHear_54 (hpC (kboxC (a := 7) rfl g6) rfl) (kboxC (a := 7) rfl g6) fl_X11_174 rfl rfl ?_
      refine g_iload (q := 6) C dX11_kinThatHear_57 rfl ?_
      obtain ⟨g7, T⟩ := tt_gd T
      refine g_iald C dX11_kinThatHear_59 (hpC (kf_0_0 (kboxC (a := 7) rfl g6)) rfl) (kf_0_0 (kboxC (a := 7) rfl g6)) (inb_of (lf_0_0 (kboxC (a := 7) rfl g6)) g7) ?_
      refine g_iload_n (q := 2) C dX11_kinThatHear_60 rfl rfl ?_
      refine g_icmp_ne (tgt := 82) C dX11_kinThatHear_61 (by decide) (fun c8 => ?_) (fun c8 => ?_)
      · have T := tt_f T c8
        exact k_f11_kinThatHear_82 C x1 x2 x3 x4 x5 x6 h hR hL6 hL21 T
      · have T := tt_t T c8
        refine g_aload_n (q := 0) C dX11_kinThatHear_64 rfl rfl ?_
        refine g_getF (k := 6) (q := 45) C dX11_kinThatHear_65 (hpC rfl rfl) rfl fl_X11_54 rfl rfl ?_
        refine g_iload (q := 5) C dX11_kinThatHear_68 rfl ?_
        refine g_iload (q := 6) C dX11_kinThatHear_70 rfl ?_
        refine g_callV (p := 45) (As := [.int x5, .int x6]) C dX11_kinThatHear_72 ml_X11_376 yv_f2_at ⟨rfl, rfl⟩ ⟨Nat.le_of_ble_eq_true rfl, Nat.le_of_ble_eq_true rfl⟩ (hpC rfl rfl) rfl rfl rfl (Nat.le_of_ble_eq_true rfl) (ok_f2_at x5 x6 h (tt_bind T)) ?_
        rintro _ _ ⟨r9, rfl, rfl, T⟩
        show G ΛC x 75 [(0, .ref 0), (1, .int x1), (2, .int x2), (3, .int x3), (4, .int x4), (5, .int x5), (6, .int x6)] [.int r9] h
        refine g_iload_n (q := 3) C dX11_kinThatHear_75 rfl rfl ?_
        refine g_icmp_ne (tgt := 82) C dX11_kinThatHear_76 (by decide) (fun c10 => ?_) (fun c10 => ?_)
        · have T := tt_f T c10
          exact k_f11_kinThatHear_82 C x1 x2 x3 x4 x5 x6 h hR hL6 hL21 T
        · have T := tt_t T c10
          refine g_iinc (v := x4 + 1) (q := 4) (L' := [(4, .int (x4 + 1)), (0, .ref 0), (1, .int x1), (2, .int x2), (3, .int x3), (5, .int x5), (6, .int x6)]) C dX11_kinThatHear_79 rfl (by first | rfl | exact congrArg _ (by decide)) (by decide) rfl ?_
          refine g_sub [1, 2, 3, 4, 0, 5, 6] rfl ?_
          exact k_f11_kinThatHear_82 C x1 x2 x3 (x4 + 1) x5 x6 h hR hL6 hL21 T

noncomputable def f11_kinThatHear_21 (x1 : Int32) (x2 : Int32) (x3 : Int32) (x4 : Int32) (x5 : Int32) (x6 : Int32) (h : Hp) : Option ((Int32 × Int32) ⊕ (Int32)) := lp (fun z : Int32 × Int32 => f11_kinThatHear_21_s x1 x2 x3 z.1 x5 z.2 h) (x4, x6)
theorem k_f11_kinThatHear_21 {x : Mx} {l : Launch} {post0 : Option Value → Hp → Prop} (C : Cx ΛC x l RX11 cX11_kinThatHear rm_f11_kinThatHear (some .int) 7 post0) {K : (Int32 × Int32) ⊕ (Int32) → Prop} (x1 : Int32) (x2 : Int32) (x3 : Int32) (x4 : Int32) (x5 : Int32) (x6 : Int32) (h : Hp) (hR : ∀ v : Int32, K (.inr v) → post0 (some (.int v)) h) (hL6 : ∀ (x4 : Int32) (x5 : Int32), K (.inl (x4, x5)) → G ΛC x 6 [(0, .ref 0), (1, .int x1), (2, .int x2), (3, .int x3), (4, .int x4), (5, .int x5)] [] h) (T : Tt (f11_kinThatHear_21 x1 x2 x3 x4 x5 x6 h) K) : G ΛC x 21 [(0, .ref 0), (1, .int x1), (2, .int x2), (3, .int x3), (4, .int x4), (5, .int x5), (6, .int x6)] [] h :=
  lp_ind (f := fun z : Int32 × Int32 => f11_kinThatHear_21_s x1 x2 x3 z.1 x5 z.2 h) (P := fun z : Int32 × Int32 => G ΛC x 21 [(0, .ref 0), (1, .int x1), (2, .int x2), (3, .int x3), (4, .int z.1), (5, .int x5), (6, .int z.2)] [] h) (K := K) (fun z T => k_f11_kinThatHear_21_s C (K := KS (fun z : Int32 × Int32 => G ΛC x 21 [(0, .ref 0), (1, .int x1), (2, .int x2), (3, .int x3), (4, .int z.1), (5, .int x5), (6, .int z.2)] [] h) K) x1 x2 x3 z.1 x5 z.2 h hR hL6 (fun _ _ q => q) T) (x4, x6) T
noncomputable def f11_kinThatHear_6_s (x1 : Int32) (x2 : Int32) (x3 : Int32) (x4 : Int32) (x5 : Int32) (h : Hp) : Option ((Int32 × Int32) ⊕ (Int32)) :=
  if h.1 6 1 ≤ x5 then (some (.inr x4)) else (f11_kinThatHear_21 x1 x2 x3 x4 x5 0 h)
set_option maxRecDepth 100000 in
set_option maxHeartbeats 4000000 in
theorem k_f11_kinThatHear_6_s {x : Mx} {l : Launch} {post0 : Option Value → Hp → Prop} (C : Cx ΛC x l RX11 cX11_kinThatHear rm_f11_kinThatHear (some .int) 7 post0) {K : (Int32 × Int32) ⊕ (Int32) → Prop} (x1 : Int32) (x2 : Int32) (x3 : Int32) (x4 : Int32) (x5 : Int32) (h : Hp) (hR : ∀ v : Int32, K (.inr v) → post0 (some (.int v)) h) (hL6 : ∀ (x4 : Int32) (x5 : Int32), K (.inl (x4, x5)) → G ΛC x 6 [(0, .ref 0), (1, .int x1), (2, .int x2), (3, .int x3), (4, .int x4), (5, .int x5)] [] h) (T : Tt (f11_kinThatHear_6_s x1 x2 x3 x4 x5 h) K) : G ΛC x 6 [(0, .ref 0), (1, .int x1), (2, .int x2), (3, .int x3), (4, .int x4), (5, .int x5)] [] h := by
  refine g_iload (q := 5) C dX11_kinThatHear_6 rfl ?_
  refine g_aload_n (q := 0) C dX11_kinThatHear_8 rfl rfl ?_
  refine g_getF (k := 2) (q := 6) C dX11_kinThatHear_9 (hpC rfl rfl) rfl fl_X11_30 rfl rfl ?_
  refine g_getI (k := 1) C dX11_kinThatHear_12 (hpC rfl rfl) rfl fl_X11_263 rfl ?_
  refine g_icmp_ge (tgt := 94) C dX11_kinThatHear_15 (by decide) (fun c1 => ?_) (fun c1 => ?_)
  · have T := tt_t T c1
    refine g_iload (q := 4) C dX11_kinThatHear_94 rfl ?_
    exact g_iret C dX11_kinThatHear_96 (hR _ (tt_some T))
  · have T := tt_f T c1
    refine g_iconst (v := 0) C dX11_kinThatHear_18 (by decide) ?_
    refine g_istore (L' := [(6, .int 0), (0, .ref 0), (1, .int x1), (2, .int x2), (3, .int x3), (4, .int x4), (5, .int x5)]) C dX11_kinThatHear_19 (by decide) rfl ?_
    refine g_sub [1, 2, 3, 4, 5, 6, 0] rfl ?_
    exact k_f11_kinThatHear_21 C x1 x2 x3 x4 x5 0 h hR hL6 T

noncomputable def f11_kinThatHear_6 (x1 : Int32) (x2 : Int32) (x3 : Int32) (x4 : Int32) (x5 : Int32) (h : Hp) : Option (Int32) := lp (fun z : Int32 × Int32 => f11_kinThatHear_6_s x1 x2 x3 z.1 z.2 h) (x4, x5)
theorem k_f11_kinThatHear_6 {x : Mx} {l : Launch} {post0 : Option Value → Hp → Prop} (C : Cx ΛC x l RX11 cX11_kinThatHear rm_f11_kinThatHear (some .int) 7 post0) {K : Int32 → Prop} (x1 : Int32) (x2 : Int32) (x3 : Int32) (x4 : Int32) (x5 : Int32) (h : Hp) (hR : ∀ v : Int32, K v → post0 (some (.int v)) h) (T : Tt (f11_kinThatHear_6 x1 x2 x3 x4 x5 h) K) : G ΛC x 6 [(0, .ref 0), (1, .int x1), (2, .int x2), (3, .int x3), (4, .int x4), (5, .int x5)] [] h :=
  lp_ind (f := fun z : Int32 × Int32 => f11_kinThatHear_6_s x1 x2 x3 z.1 z.2 h) (P := fun z : Int32 × Int32 => G ΛC x 6 [(0, .ref 0), (1, .int x1), (2, .int x2), (3, .int x3), (4, .int z.1), (5, .int z.2)] [] h) (K := K) (fun z T => k_f11_kinThatHear_6_s C (K := KS (fun z : Int32 × Int32 => G ΛC x 6 [(0, .ref 0), (1, .int x1), (2, .int x2), (3, .int x3), (4, .int z.1), (5, .int z.2)] [] h) K) x1 x2 x3 z.1 z.2 h hR (fun _ _ q => q) T) (x4, x5) T
noncomputable def f11_kinThatHear (x1 : Int32) (x2 : Int32) (x3 : Int32) (h : Hp) : Option (Int32) :=
  f11_kinThatHear_6 x1 x2 x3 0 0 h
set_option maxRecDepth 100000 in
set_option maxHeartbeats 4000000 in
theorem k_f11_kinThatHear {x : Mx} {l : Launch} {post0 : Option Value → Hp → Prop} (C : Cx ΛC x l RX11 cX11_kinThatHear rm_f11_kinThatHear (some .int) 7 post0) {K : Int32 → Prop} (x1 : Int32) (x2 : Int32) (x3 : Int32) (h : Hp) (hR : ∀ v : Int32, K v → post0 (some (.int v)) h) (T : Tt (f11_kinThatHear x1 x2 x3 h) K) : G ΛC x 0 [(0, .ref 0), (1, .int x1), (2, .int x2), (3, .int x3)] [] h := by
  refine g_iconst (v := 0) C dX11_kinThatHear_0 (by decide) ?_
  refine g_istore (L' := [(4, .int 0), (0, .ref 0), (1, .int x1), (2, .int x2), (3, .int x3)]) C dX11_kinThatHear_1 (by decide) rfl ?_
  refine g_iconst (v := 0) C dX11_kinThatHear_3 (by decide) ?_
  refine g_istore (L' := [(5, .int 0), (4, .int 0), (0, .ref 0), (1, .int x1), (2, .int x2), (3, .int x3)]) C dX11_kinThatHear_4 (by decide) rfl ?_
  refine g_sub [2, 3, 4, 5, 1, 0] rfl ?_
  exact k_f11_kinThatHear_6 C x1 x2 x3 0 0 h hR T

theorem ok_f11_kinThatHear {l : Launch} {K : Int32 → Prop} (x1 : Int32) (x2 : Int32) (x3 : Int32) (h : Hp) (T : Tt (f11_kinThatHear x1 x2 x3 h) K) : Ok ΛC l yX11_kinThatHear cX11_kinThatHear 7 (some .int) rm_f11_kinThatHear [.ref 0, .int x1, .int x2, .int x3] h (PIs K h) :=
  Ok.of RX11 rfl (by decide) ⟨rfl, rfl⟩ (Nat.le_of_ble_eq_true rfl) (fun x C => k_f11_kinThatHear C x1 x2 x3 h (fun v q => ⟨v, rfl, rfl, q⟩) T)

abbrev rm_f11_fill : Room := { frames := 4, cells := 0, slots := 0, locals := 88 }
noncomputable def f11_fill_89 (x1 : Int32) (x2 : Int32) (x3 : Int32) (x4 : Int32) (x5 : Int32) (h : Hp) : Option ((Int32 × Int32 × Int32) ⊕ (Int32 × Hp)) :=
  some (.inl (x3, x4, x5 + 1))
set_option maxRecDepth 100000 in
set_option maxHeartbeats 4000000 in
theorem k_f11_fill_89 {x : Mx} {l : Launch} {post0 : Option Value → Hp → Prop} (C : Cx ΛC x l RX11 cX11_fill rm_f11_fill (some .int) 7 post0) {K : (Int32 × Int32 × Int32) ⊕ (Int32 × Hp) → Prop} (x1 : Int32) (x2 : Int32) (x3 : Int32) (x4 : Int32) (x5 : Int32) (h : Hp) (hR : ∀ (v : Int32) (h : Hp), K (.inr (v, h)) → post0 (some (.int v)) h) (hL58 : ∀ (x3 : Int32) (x4 : Int32) (x5 : Int32), K (.inl (x3, x4, x5)) → G ΛC x 58 [(0, .ref 0), (1, .int x1), (2, .int x2), (3, .int x3), (4, .int x4), (5, .int x5)] [] h) (T : Tt (f11_fill_89 x1 x2 x3 x4 x5 h) K) : G ΛC x 89 [(0, .ref 0), (1, .int x1), (2, .int x2), (3, .int x3), (4, .int x4), (5, .int x5)] [] h := by
  refine g_iinc (v := x5 + 1) (q := 5) (L' := [(5, .int (x5 + 1)), (0, .ref 0), (1, .int x1), (2, .int x2), (3, .int x3), (4, .int x4)]) C dX11_fill_89 rfl (by first | rfl | exact congrArg _ (by decide)) (by decide) rfl ?_
  refine g_goto (tgt := 58) C dX11_fill_92 (by decide) ?_
  refine g_sub [1, 2, 3, 4, 5, 0] rfl ?_
  exact hL58 _ _ _ (tt_some T)

noncomputable def f11_fill_58_s (x1 : Int32) (x2 : Int32) (x3 : Int32) (x4 : Int32) (x5 : Int32) (h : Hp) : Option ((Int32 × Int32 × Int32) ⊕ (Int32 × Hp)) :=
  if 9 < x5 then (some (.inr (x3, h))) else ((f11_kinThatHear x1 x2 x5 h).bind fun r10 => if r10 ≤ x4 then (f11_fill_89 x1 x2 x3 x4 x5 h) else (f11_fill_89 x1 x2 x5 r10 x5 h))
set_option maxRecDepth 100000 in
set_option maxHeartbeats 4000000 in
theorem k_f11_fill_58_s {x : Mx} {l : Launch} {post0 : Option Value → Hp → Prop} (C : Cx ΛC x l RX11 cX11_fill rm_f11_fill (some .int) 7 post0) {K : (Int32 × Int32 × Int32) ⊕ (Int32 × Hp) → Prop} (x1 : Int32) (x2 : Int32) (x3 : Int32) (x4 : Int32) (x5 : Int32) (h : Hp) (hR : ∀ (v : Int32) (h : Hp), K (.inr (v, h)) → post0 (some (.int v)) h) (hL58 : ∀ (x3 : Int32) (x4 : Int32) (x5 : Int32), K (.inl (x3, x4, x5)) → G ΛC x 58 [(0, .ref 0), (1, .int x1), (2, .int x2), (3, .int x3), (4, .int x4), (5, .int x5)] [] h) (T : Tt (f11_fill_58_s x1 x2 x3 x4 x5 h) K) : G ΛC x 58 [(0, .ref 0), (1, .int x1), (2, .int x2), (3, .int x3), (4, .int x4), (5, .int x5)] [] h := by
  refine g_iload (q := 5) C dX11_fill_58 rfl ?_
  refine g_bipush (v := 9) C dX11_fill_60 (by decide) ?_
  refine g_icmp_gt (tgt := 95) C dX11_fill_62 (by decide) (fun c9 => ?_) (fun c9 => ?_)
  · have T := tt_t T c9
    refine g_iload_n (q := 3) C dX11_fill_95 rfl rfl ?_
    exact g_iret C dX11_fill_96 (hR _ _ (tt_some T))
  · have T := tt_f T c9
    refine g_aload_n (q := 0) C dX11_fill_65 rfl rfl ?_
    refine g_iload_n (q := 1) C dX11_fill_66 rfl rfl ?_
    refine g_iload_n (q := 2) C dX11_fill_67 rfl rfl ?_
    refine g_iload (q := 5) C dX11_fill_68 rfl ?_
    refine g_callV (p := 0) (As := [.int x1, .int x2, .int x5]) C dX11_fill_70 ml_X11_243 yv_f11_kinThatHear ⟨rfl, rfl⟩ ⟨Nat.le_of_ble_eq_true rfl, Nat.le_of_ble_eq_true rfl⟩ (hpC rfl rfl) rfl rfl rfl (Nat.le_of_ble_eq_true rfl) (ok_f11_kinThatHear x1 x2 x5 h (tt_bind T)) ?_
    rintro _ _ ⟨r10, rfl, rfl, T⟩
    show G ΛC x 73 [(0, .ref 0), (1, .int x1), (2, .int x2), (3, .int x3), (4, .int x4), (5, .int x5)] [.int r10] h
    refine g_istore (L' := [(6, .int r10), (0, .ref 0), (1, .int x1), (2, .int x2), (3, .int x3), (4, .int x4), (5, .int x5)]) C dX11_fill_73 (by decide) rfl ?_
    refine g_iload (q := 0) C dX11_fill_75 rfl ?_
    refine g_iload (q := 5) C dX11_fill_77 rfl ?_
    refine g_icmp_le (tgt := 89) C dX11_fill_79 (by decide) (fun c11 => ?_) (fun c11 => ?_)
    · have T := tt_t T c11
      refine g_sub [1, 2, 3, 4, 5, 6] rfl ?_
      exact k_f11_fill_89 C x1 x2 x3 x4 x5 h hR hL58 T
    · have T := tt_f T c11
      refine g_iload (q := 0) C dX11_fill_82 rfl ?_
      refine g_istore (L' := [(4, .int r10), (6, .int r10), (0, .ref 0), (1, .int x1), (2, .int x2), (3, .int x3), (5, .int x5)]) C dX11_fill_84 (by decide) rfl ?_
      refine g_iload (q := 6) C dX11_fill_86 rfl ?_
      refine g_istore_n (L' := [(3, .int x5), (4, .int r10), (6, .int r10), (0, .ref 0), (1, .int x1), (2, .int x2), (5, .int x5)]) C dX11_fill_88 rfl (by decide) rfl ?_
      refine g_sub [3, 4, 5, 0, 1, 6] rfl ?_
      exact k_f11_fill_89 C x1 x2 x5 r10 x5 h hR hL58 T

noncomputable def f11_fill_58 (x1 : Int32) (x2 : Int32) (x3 : Int32) (x4 : Int32) (x5 : Int32) (h : Hp) : Option (Int32 × Hp) := lp (fun z : Int32 × Int32 × Int32 => f11_fill_58_s x1 x2 z.1 z.2.1 z.2.2 h) (x3, x4, x5)
theorem k_f11_fill_58 {x : Mx} {l : Launch} {post0 : Option Value → Hp → Prop} (C : Cx ΛC x l RX11 cX11_fill rm_f11_fill (some .int) 7 post0) {K : Int32 × Hp → Prop} (x1 : Int32) (x2 : Int32) (x3 : Int32) (x4 : Int32) (x5 : Int32) (h : Hp) (hR : ∀ (v : Int32) (h : Hp), K (v, h) → post0 (some (.int v)) h) (T : Tt (f11_fill_58 x1 x2 x3 x4 x5 h) K) : G ΛC x 58 [(0, .ref 0), (1, .int x1), (2, .int x2), (3, .int x3), (4, .int x4), (5, .int x5)] [] h :=
  lp_ind (f := fun z : Int32 × Int32 × Int32 => f11_fill_58_s x1 x2 z.1 z.2.1 z.2.2 h) (P := fun z : Int32 × Int32 × Int32 => G ΛC x 58 [(0, .ref 0), (1, .int x1), (2, .int x2), (3, .int z.1), (4, .int z.2.1), (5, .int z.2.2)] [] h) (K := K) (fun z T => k_f11_fill_58_s C (K := KS (fun z : Int32 × Int32 × Int32 => G ΛC x 58 [(0, .ref 0), (1, .int x1), (2, .int x2), (3, .int z.1), (4, .int z.2.1), (5, .int z.2.2)] [] h) K) x1 x2 z.1 z.2.1 z.2.2 h hR (fun _ _ _ q => q) T) (x3, x4, x5) T
noncomputable def f11_fill (x1 : Int32) (x2 : Int32) (h : Hp) : Option (Int32 × Hp) :=
  (f11_isBox x1 h).bind fun r1 => if r1 = 0 then (some ((-1), h)) else ((f11_isWithin x2 1 9).bind fun r3 => if r3 = 0 then (some ((-1), h)) else (gd (inb x1 6) <| (f0_misses (8 + 2 * ix x1) x2 h).bind fun r6 => if r6 = 0 then (some ((-2), h)) else ((f2_listen 6 h).bind fun h8 => f11_fill_58 x1 x2 0 (-1) 1 h8)))
set_option maxRecDepth 100000 in
set_option maxHeartbeats 4000000 in
theorem k_f11_fill {x : Mx} {l : Launch} {post0 : Option Value → Hp → Prop} (C : Cx ΛC x l RX11 cX11_fill rm_f11_fill (some .int) 7 post0) {K : Int32 × Hp → Prop} (x1 : Int32) (x2 : Int32) (h : Hp) (hR : ∀ (v : Int32) (h : Hp), K (v, h) → post0 (some (.int v)) h) (T : Tt (f11_fill x1 x2 h) K) : G ΛC x 0 [(0, .ref 0), (1, .int x1), (2, .int x2)] [] h := by
  refine g_aload_n (q := 0) C dX11_fill_0 rfl rfl ?_
  refine g_iload_n (q := 1) C dX11_fill_1 rfl rfl ?_
  refine g_callV (p := 0) (As := [.int x1]) C dX11_fill_2 ml_X11_129 yv_f11_isBox ⟨rfl, rfl⟩ ⟨Nat.le_of_ble_eq_true rfl, Nat.le_of_ble_eq_true rfl⟩ (hpC rfl rfl) rfl rfl rfl (Nat.le_of_ble_eq_true rfl) (ok_f11_isBox x1 h (tt_bind T)) ?_
  rintro _ _ ⟨r1, rfl, rfl, T⟩
  show G ΛC x 5 [(0, .ref 0), (1, .int x1), (2, .int x2)] [.int r1] h
  refine g_if_eq (tgt := 18) C dX11_fill_5 (by decide) (fun c2 => ?_) (fun c2 => ?_)
  · have T := tt_t T c2
    refine g_iconst (v := (-1)) C dX11_fill_18 (by decide) ?_
    exact g_iret C dX11_fill_19 (hR _ _ (tt_some T))
  · have T := tt_f T c2
    refine g_iload_n (q := 2) C dX11_fill_8 rfl rfl ?_
    refine g_iconst (v := 1) C dX11_fill_9 (by decide) ?_
    refine g_bipush (v := 9) C dX11_fill_10 (by decide) ?_
    refine g_callS (As := [.int x2, .int 1, .int 9]) C dX11_fill_12 ml_X11_170 ys_f11_isWithin ⟨rfl, rfl⟩ ⟨Nat.le_of_ble_eq_true rfl, Nat.le_of_ble_eq_true rfl⟩ rfl rfl (Nat.le_of_ble_eq_true rfl) (ok_f11_isWithin x2 1 9 h (tt_bind T)) ?_
    rintro _ _ ⟨r3, rfl, rfl, T⟩
    show G ΛC x 15 [(0, .ref 0), (1, .int x1), (2, .int x2)] [.int r3] h
    refine g_if_ne (tgt := 20) C dX11_fill_15 (by decide) (fun c4 => ?_) (fun c4 => ?_)
    · have T := tt_f T c4
      refine g_aload_n (q := 0) C dX11_fill_20 rfl rfl ?_
      refine g_getF (k := 2) (q := 6) C dX11_fill_21 (hpC rfl rfl) rfl fl_X11_30 rfl rfl ?_
      refine g_getF (k := 0) (q := 7) C dX11_fill_24 (hpC rfl rfl) rfl fl_X11_140 rfl rfl ?_
      refine g_iload_n (q := 1) C dX11_fill_27 rfl rfl ?_
      obtain ⟨g5, T⟩ := tt_gd T
      refine g_aald (q := 8 + 2 * ix x1) C dX11_fill_28 (hpC rfl rfl) rfl (inb_of rfl g5) rfl ?_
      refine g_iload_n (q := 2) C dX11_fill_29 rfl rfl ?_
      refine g_callV (p := (8 + 2 * ix x1)) (As := [.int x2]) C dX11_fill_30 ml_X11_217 yv_f0_misses ⟨rfl, rfl⟩ ⟨Nat.le_of_ble_eq_true rfl, Nat.le_of_ble_eq_true rfl⟩ (hpC (kboxC (a := 7) rfl g5) rfl) (kboxC (a := 7) rfl g5) rfl rfl (Nat.le_of_ble_eq_true rfl) (ok_f0_misses (8 + 2 * ix x1) x2 (kboxC (a := 7) rfl g5) h (tt_bind T)) ?_
      rintro _ _ ⟨r6, rfl, rfl, T⟩
      show G ΛC x 33 [(0, .ref 0), (1, .int x1), (2, .int x2)] [.int r6] h
      refine g_if_ne (tgt := 39) C dX11_fill_33 (by decide) (fun c7 => ?_) (fun c7 => ?_)
      · have T := tt_f T c7
        refine g_aload_n (q := 0) C dX11_fill_39 rfl rfl ?_
        refine g_getF (k := 6) (q := 45) C dX11_fill_40 (hpC rfl rfl) rfl fl_X11_54 rfl rfl ?_
        refine g_aload_n (q := 0) C dX11_fill_43 rfl rfl ?_
        refine g_getF (k := 2) (q := 6) C dX11_fill_44 (hpC rfl rfl) rfl fl_X11_30 rfl rfl ?_
        refine g_callV (p := 45) (As := [.ref 6]) C dX11_fill_47 ml_X11_231 yv_f2_listen ⟨rfl, rfl⟩ ⟨Nat.le_of_ble_eq_true rfl, Nat.le_of_ble_eq_true rfl⟩ (hpC rfl rfl) rfl rfl rfl (Nat.le_of_ble_eq_true rfl) (ok_f2_listen 6 rfl h (tt_bind T)) ?_
        rintro _ h8 ⟨rfl, T⟩
        show G ΛC x 50 [(0, .ref 0), (1, .int x1), (2, .int x2)] [] h8
        refine g_iconst (v := 0) C dX11_fill_50 (by decide) ?_
        refine g_istore_n (L' := [(3, .int 0), (0, .ref 0), (1, .int x1), (2, .int x2)]) C dX11_fill_51 rfl (by decide) rfl ?_
        refine g_iconst (v := (-1)) C dX11_fill_52 (by decide) ?_
        refine g_istore (L' := [(4, .int (-1)), (3, .int 0), (0, .ref 0), (1, .int x1), (2, .int x2)]) C dX11_fill_53 (by decide) rfl ?_
        refine g_iconst (v := 1) C dX11_fill_55 (by decide) ?_
        refine g_istore (L' := [(5, .int 1), (4, .int (-1)), (3, .int 0), (0, .ref 0), (1, .int x1), (2, .int x2)]) C dX11_fill_56 (by decide) rfl ?_
        refine g_sub [3, 4, 5, 2, 1, 0] rfl ?_
        exact k_f11_fill_58 C x1 x2 0 (-1) 1 h8 hR T
      · have T := tt_t T c7
        refine g_bipush (v := (-2)) C dX11_fill_36 (by decide) ?_
        exact g_iret C dX11_fill_38 (hR _ _ (tt_some T))
    · have T := tt_t T c4
      refine g_iconst (v := (-1)) C dX11_fill_18 (by decide) ?_
      exact g_iret C dX11_fill_19 (hR _ _ (tt_some T))

theorem ok_f11_fill {l : Launch} {K : Int32 × Hp → Prop} (x1 : Int32) (x2 : Int32) (h : Hp) (T : Tt (f11_fill x1 x2 h) K) : Ok ΛC l yX11_fill cX11_fill 7 (some .int) rm_f11_fill [.ref 0, .int x1, .int x2] h (PIw K) :=
  Ok.of RX11 rfl (by decide) ⟨rfl, rfl⟩ (Nat.le_of_ble_eq_true rfl) (fun x C => k_f11_fill C x1 x2 h (fun v _ q => ⟨v, rfl, q⟩) T)

abbrev rm_f11_areBoxes : Room := { frames := 0, cells := 0, slots := 0, locals := 0 }
noncomputable def f11_areBoxes_21 (h : Hp) : Option (Int32) :=
  some 0
set_option maxRecDepth 100000 in
set_option maxHeartbeats 4000000 in
theorem k_f11_areBoxes_21 {x : Mx} {l : Launch} {post0 : Option Value → Hp → Prop} (C : Cx ΛC x l RX11 cX11_areBoxes rm_f11_areBoxes (some .boolean) 2 post0) {K : Int32 → Prop} (h : Hp) (hR : ∀ v : Int32, K v → post0 (some (.int v)) h) (T : Tt (f11_areBoxes_21 h) K) : G ΛC x 21 [] [] h := by
  refine g_iconst (v := 0) C dX11_areBoxes_21 (by decide) ?_
  exact g_zret C dX11_areBoxes_22 (Or.inl rfl) (hR _ (tt_some T))

noncomputable def f11_areBoxes (x1 : Int32) (h : Hp) : Option (Int32) :=
  if x1 < 0 then (f11_areBoxes_21 h) else (if 1 <<< ((h.1 6 1) &&& 31) ≤ x1 then (f11_areBoxes_21 h) else (some 1))
set_option maxRecDepth 100000 in
set_option maxHeartbeats 4000000 in
theorem k_f11_areBoxes {x : Mx} {l : Launch} {post0 : Option Value → Hp → Prop} (C : Cx ΛC x l RX11 cX11_areBoxes rm_f11_areBoxes (some .boolean) 2 post0) {K : Int32 → Prop} (x1 : Int32) (h : Hp) (hR : ∀ v : Int32, K v → post0 (some (.int v)) h) (T : Tt (f11_areBoxes x1 h) K) : G ΛC x 0 [(0, .ref 0), (1, .int x1)] [] h := by
  refine g_iload_n (q := 1) C dX11_areBoxes_0 rfl rfl ?_
  refine g_if_lt (tgt := 21) C dX11_areBoxes_1 (by decide) (fun c1 => ?_) (fun c1 => ?_)
  · have T := tt_t T c1
    refine g_sub [] rfl ?_
    exact k_f11_areBoxes_21 C h hR T
  · have T := tt_f T c1
    refine g_iload_n (q := 1) C dX11_areBoxes_4 rfl rfl ?_
    refine g_iconst (v := 1) C dX11_areBoxes_5 (by decide) ?_
    refine g_aload_n (q := 0) C dX11_areBoxes_6 rfl rfl ?_
    refine g_getF (k := 2) (q := 6) C dX11_areBoxes_7 (hpC rfl rfl) rfl fl_X11_30 rfl rfl ?_
    refine g_getI (k := 1) C dX11_areBoxes_10 (hpC rfl rfl) rfl fl_X11_263 rfl ?_
    refine g_ishl C dX11_areBoxes_13 ?_
    refine g_icmp_ge (tgt := 21) C dX11_areBoxes_14 (by decide) (fun c2 => ?_) (fun c2 => ?_)
    · have T := tt_t T c2
      refine g_sub [] rfl ?_
      exact k_f11_areBoxes_21 C h hR T
    · have T := tt_f T c2
      refine g_iconst (v := 1) C dX11_areBoxes_17 (by decide) ?_
      refine g_goto (tgt := 22) C dX11_areBoxes_18 (by decide) ?_
      exact g_zret C dX11_areBoxes_22 (Or.inr rfl) (hR _ (tt_some T))

theorem ok_f11_areBoxes {l : Launch} {K : Int32 → Prop} (x1 : Int32) (h : Hp) (T : Tt (f11_areBoxes x1 h) K) : Ok ΛC l yX11_areBoxes cX11_areBoxes 2 (some .boolean) rm_f11_areBoxes [.ref 0, .int x1] h (PIs K h) :=
  Ok.of RX11 rfl (by decide) ⟨rfl, rfl⟩ (Nat.le_of_ble_eq_true rfl) (fun x C => k_f11_areBoxes C x1 h (fun v q => ⟨v, rfl, rfl, q⟩) T)

abbrev rm_f11_join : Room := { frames := 5, cells := 0, slots := 0, locals := 118 }
noncomputable def f11_join (x1 : Int32) (x2 : Int32) (h : Hp) : Option (Int32 × Hp) :=
  (f11_areBoxes x1 h).bind fun r1 => if r1 = 0 then (some ((-1), h)) else ((f11_isWithin x2 0 6).bind fun r3 => if r3 = 0 then (some ((-1), h)) else ((f2_listen 6 h).bind fun h5 => (f6_shortest x1 h5).bind fun (r6, h7) => if x2 = 6 then (some (r6, h7)) else (if h7.1 47 3 ≤ x2 then (some ((-2), h7)) else (gd (inb x2 6) <| some (h7.1 50 (ix x2), h7)))))
set_option maxRecDepth 100000 in
set_option maxHeartbeats 4000000 in
theorem k_f11_join {x : Mx} {l : Launch} {post0 : Option Value → Hp → Prop} (C : Cx ΛC x l RX11 cX11_join rm_f11_join (some .int) 4 post0) {K : Int32 × Hp → Prop} (x1 : Int32) (x2 : Int32) (h : Hp) (hR : ∀ (v : Int32) (h : Hp), K (v, h) → post0 (some (.int v)) h) (T : Tt (f11_join x1 x2 h) K) : G ΛC x 0 [(0, .ref 0), (1, .int x1), (2, .int x2)] [] h := by
  refine g_aload_n (q := 0) C dX11_join_0 rfl rfl ?_
  refine g_iload_n (q := 1) C dX11_join_1 rfl rfl ?_
  refine g_callV (p := 0) (As := [.int x1]) C dX11_join_2 ml_X11_246 yv_f11_areBoxes ⟨rfl, rfl⟩ ⟨Nat.le_of_ble_eq_true rfl, Nat.le_of_ble_eq_true rfl⟩ (hpC rfl rfl) rfl rfl rfl (Nat.le_of_ble_eq_true rfl) (ok_f11_areBoxes x1 h (tt_bind T)) ?_
  rintro _ _ ⟨r1, rfl, rfl, T⟩
  show G ΛC x 5 [(0, .ref 0), (1, .int x1), (2, .int x2)] [.int r1] h
  refine g_if_eq (tgt := 18) C dX11_join_5 (by decide) (fun c2 => ?_) (fun c2 => ?_)
  · have T := tt_t T c2
    refine g_iconst (v := (-1)) C dX11_join_18 (by decide) ?_
    exact g_iret C dX11_join_19 (hR _ _ (tt_some T))
  · have T := tt_f T c2
    refine g_iload_n (q := 2) C dX11_join_8 rfl rfl ?_
    refine g_iconst (v := 0) C dX11_join_9 (by decide) ?_
    refine g_bipush (v := 6) C dX11_join_10 (by decide) ?_
    refine g_callS (As := [.int x2, .int 0, .int 6]) C dX11_join_12 ml_X11_170 ys_f11_isWithin ⟨rfl, rfl⟩ ⟨Nat.le_of_ble_eq_true rfl, Nat.le_of_ble_eq_true rfl⟩ rfl rfl (Nat.le_of_ble_eq_true rfl) (ok_f11_isWithin x2 0 6 h (tt_bind T)) ?_
    rintro _ _ ⟨r3, rfl, rfl, T⟩
    show G ΛC x 15 [(0, .ref 0), (1, .int x1), (2, .int x2)] [.int r3] h
    refine g_if_ne (tgt := 20) C dX11_join_15 (by decide) (fun c4 => ?_) (fun c4 => ?_)
    · have T := tt_f T c4
      refine g_aload_n (q := 0) C dX11_join_20 rfl rfl ?_
      refine g_getF (k := 6) (q := 45) C dX11_join_21 (hpC rfl rfl) rfl fl_X11_54 rfl rfl ?_
      refine g_aload_n (q := 0) C dX11_join_24 rfl rfl ?_
      refine g_getF (k := 2) (q := 6) C dX11_join_25 (hpC rfl rfl) rfl fl_X11_30 rfl rfl ?_
      refine g_callV (p := 45) (As := [.ref 6]) C dX11_join_28 ml_X11_231 yv_f2_listen ⟨rfl, rfl⟩ ⟨Nat.le_of_ble_eq_true rfl, Nat.le_of_ble_eq_true rfl⟩ (hpC rfl rfl) rfl rfl rfl (Nat.le_of_ble_eq_true rfl) (ok_f2_listen 6 rfl h (tt_bind T)) ?_
      rintro _ h5 ⟨rfl, T⟩
      show G ΛC x 31 [(0, .ref 0), (1, .int x1), (2, .int x2)] [] h5
      refine g_aload_n (q := 0) C dX11_join_31 rfl rfl ?_
      refine g_getF (k := 7) (q := 47) C dX11_join_32 (hpC rfl rfl) rfl fl_X11_61 rfl rfl ?_
      refine g_aload_n (q := 0) C dX11_join_35 rfl rfl ?_
      refine g_getF (k := 6) (q := 45) C dX11_join_36 (hpC rfl rfl) rfl fl_X11_54 rfl rfl ?_
      refine g_iload_n (q := 1) C dX11_join_39 rfl rfl ?_
      refine g_callV (p := 47) (As := [.ref 45, .int x1]) C dX11_join_40 ml_X11_249 yv_f6_shortest ⟨rfl, rfl⟩ ⟨Nat.le_of_ble_eq_true rfl, Nat.le_of_ble_eq_true rfl⟩ (hpC rfl rfl) rfl rfl rfl (Nat.le_of_ble_eq_true rfl) (ok_f6_shortest x1 h5 (tt_bind T)) ?_
      rintro _ h7 ⟨r6, rfl, T⟩
      show G ΛC x 43 [(0, .ref 0), (1, .int x1), (2, .int x2)] [.int r6] h7
      refine g_istore_n (L' := [(3, .int r6), (0, .ref 0), (1, .int x1), (2, .int x2)]) C dX11_join_43 rfl (by decide) rfl ?_
      refine g_iload_n (q := 3) C dX11_join_44 rfl rfl ?_
      refine g_bipush (v := 6) C dX11_join_45 (by decide) ?_
      refine g_icmp_ne (tgt := 52) C dX11_join_47 (by decide) (fun c8 => ?_) (fun c8 => ?_)
      · have T := tt_f T c8
        refine g_iload_n (q := 3) C dX11_join_52 rfl rfl ?_
        refine g_aload_n (q := 1) C dX11_join_53 rfl rfl ?_
        refine g_getF (k := 7) (q := 47) C dX11_join_54 (hpC rfl rfl) rfl fl_X11_61 rfl rfl ?_
        refine g_getI (k := 3) C dX11_join_57 (hpC rfl rfl) rfl fl_X11_253 rfl ?_
        refine g_icmp_ge (tgt := 75) C dX11_join_60 (by decide) (fun c9 => ?_) (fun c9 => ?_)
        · have T := tt_t T c9
          refine g_bipush (v := (-2)) C dX11_join_75 (by decide) ?_
          exact g_iret C dX11_join_77 (hR _ _ (tt_some T))
        · have T := tt_f T c9
          refine g_aload_n (q := 1) C dX11_join_63 rfl rfl ?_
          refine g_getF (k := 7) (q := 47) C dX11_join_64 (hpC rfl rfl) rfl fl_X11_61 rfl rfl ?_
          refine g_getF (k := 2) (q := 50) C dX11_join_67 (hpC rfl rfl) rfl fl_X11_256 rfl rfl ?_
          refine g_iload_n (q := 3) C dX11_join_70 rfl rfl ?_
          obtain ⟨g10, T⟩ := tt_gd T
          refine g_iald C dX11_join_71 (hpC rfl rfl) rfl (inb_of rfl g10) ?_
          refine g_goto (tgt := 77) C dX11_join_72 (by decide) ?_
          exact g_iret C dX11_join_77 (hR _ _ (tt_some T))
      · have T := tt_t T c8
        refine g_iload_n (q := 0) C dX11_join_50 rfl rfl ?_
        exact g_iret C dX11_join_51 (hR _ _ (tt_some T))
    · have T := tt_t T c4
      refine g_iconst (v := (-1)) C dX11_join_18 (by decide) ?_
      exact g_iret C dX11_join_19 (hR _ _ (tt_some T))

theorem ok_f11_join {l : Launch} {K : Int32 × Hp → Prop} (x1 : Int32) (x2 : Int32) (h : Hp) (T : Tt (f11_join x1 x2 h) K) : Ok ΛC l yX11_join cX11_join 4 (some .int) rm_f11_join [.ref 0, .int x1, .int x2] h (PIw K) :=
  Ok.of RX11 rfl (by decide) ⟨rfl, rfl⟩ (Nat.le_of_ble_eq_true rfl) (fun x C => k_f11_join C x1 x2 h (fun v _ q => ⟨v, rfl, q⟩) T)

abbrev rm_f11_duet : Room := { frames := 4, cells := 0, slots := 0, locals := 88 }
noncomputable def f11_duet (x1 : Int32) (x2 : Int32) (h : Hp) : Option (Int32 × Hp) :=
  (f11_isBox x1 h).bind fun r1 => if r1 = 0 then (some ((-1), h)) else ((f11_isBox x2 h).bind fun r3 => if r3 = 0 then (some ((-1), h)) else (if x1 = x2 then (some ((-1), h)) else ((f2_listen 6 h).bind fun h6 => gd (inb x1 6) <| gd (inb x2 6) <| (f2_firstMinute x1 (h6.1 (8 + 2 * ix x1) 2) x2 (h6.1 (8 + 2 * ix x2) 2) h6).bind fun r9 => some (r9, h6))))
set_option maxRecDepth 100000 in
set_option maxHeartbeats 4000000 in
theorem k_f11_duet {x : Mx} {l : Launch} {post0 : Option Value → Hp → Prop} (C : Cx ΛC x l RX11 cX11_duet rm_f11_duet (some .int) 3 post0) {K : Int32 × Hp → Prop} (x1 : Int32) (x2 : Int32) (h : Hp) (hR : ∀ (v : Int32) (h : Hp), K (v, h) → post0 (some (.int v)) h) (T : Tt (f11_duet x1 x2 h) K) : G ΛC x 0 [(0, .ref 0), (1, .int x1), (2, .int x2)] [] h := by
  refine g_aload_n (q := 0) C dX11_duet_0 rfl rfl ?_
  refine g_iload_n (q := 1) C dX11_duet_1 rfl rfl ?_
  refine g_callV (p := 0) (As := [.int x1]) C dX11_duet_2 ml_X11_129 yv_f11_isBox ⟨rfl, rfl⟩ ⟨Nat.le_of_ble_eq_true rfl, Nat.le_of_ble_eq_true rfl⟩ (hpC rfl rfl) rfl rfl rfl (Nat.le_of_ble_eq_true rfl) (ok_f11_isBox x1 h (tt_bind T)) ?_
  rintro _ _ ⟨r1, rfl, rfl, T⟩
  show G ΛC x 5 [(0, .ref 0), (1, .int x1), (2, .int x2)] [.int r1] h
  refine g_if_eq (tgt := 21) C dX11_duet_5 (by decide) (fun c2 => ?_) (fun c2 => ?_)
  · have T := tt_t T c2
    refine g_iconst (v := (-1)) C dX11_duet_21 (by decide) ?_
    exact g_iret C dX11_duet_22 (hR _ _ (tt_some T))
  · have T := tt_f T c2
    refine g_aload_n (q := 0) C dX11_duet_8 rfl rfl ?_
    refine g_iload_n (q := 2) C dX11_duet_9 rfl rfl ?_
    refine g_callV (p := 0) (As := [.int x2]) C dX11_duet_10 ml_X11_129 yv_f11_isBox ⟨rfl, rfl⟩ ⟨Nat.le_of_ble_eq_true rfl, Nat.le_of_ble_eq_true rfl⟩ (hpC rfl rfl) rfl rfl rfl (Nat.le_of_ble_eq_true rfl) (ok_f11_isBox x2 h (tt_bind T)) ?_
    rintro _ _ ⟨r3, rfl, rfl, T⟩
    show G ΛC x 13 [(0, .ref 0), (1, .int x1), (2, .int x2)] [.int r3] h
    refine g_if_eq (tgt := 21) C dX11_duet_13 (by decide) (fun c4 => ?_) (fun c4 => ?_)
    · have T := tt_t T c4
      refine g_iconst (v := (-1)) C dX11_duet_21 (by decide) ?_
      exact g_iret C dX11_duet_22 (hR _ _ (tt_some T))
    · have T := tt_f T c4
      refine g_iload_n (q := 1) C dX11_duet_16 rfl rfl ?_
      refine g_iload_n (q := 2) C dX11_duet_17 rfl rfl ?_
      refine g_icmp_ne (tgt := 23) C dX11_duet_18 (by decide) (fun c5 => ?_) (fun c5 => ?_)
      · have T := tt_f T c5
        refine g_aload_n (q := 0) C dX11_duet_23 rfl rfl ?_
        refine g_getF (k := 6) (q := 45) C dX11_duet_24 (hpC rfl rfl) rfl fl_X11_54 rfl rfl ?_
        refine g_aload_n (q := 0) C dX11_duet_27 rfl rfl ?_
        refine g_getF (k := 2) (q := 6) C dX11_duet_28 (hpC rfl rfl) rfl fl_X11_30 rfl rfl ?_
        refine g_callV (p := 45) (As := [.ref 6]) C dX11_duet_31 ml_X11_231 yv_f2_listen ⟨rfl, rfl⟩ ⟨Nat.le_of_ble_eq_true rfl, Nat.le_of_ble_eq_true rfl⟩ (hpC rfl rfl) rfl rfl rfl (Nat.le_of_ble_eq_true rfl) (ok_f2_listen 6 rfl h (tt_bind T)) ?_
        rintro _ h6 ⟨rfl, T⟩
        show G ΛC x 34 [(0, .ref 0), (1, .int x1), (2, .int x2)] [] h6
        refine g_aload_n (q := 0) C dX11_duet_34 rfl rfl ?_
        refine g_getF (k := 6) (q := 45) C dX11_duet_35 (hpC rfl rfl) rfl fl_X11_54 rfl rfl ?_
        refine g_iload_n (q := 1) C dX11_duet_38 rfl rfl ?_
        refine g_aload_n (q := 0) C dX11_duet_39 rfl rfl ?_
        refine g_getF (k := 2) (q := 6) C dX11_duet_40 (hpC rfl rfl) rfl fl_X11_30 rfl rfl ?_
        refine g_getF (k := 0) (q := 7) C dX11_duet_43 (hpC rfl rfl) rfl fl_X11_140 rfl rfl ?_
        refine g_iload_n (q := 1) C dX11_duet_46 rfl rfl ?_
        obtain ⟨g7, T⟩ := tt_gd T
        refine g_aald (q := 8 + 2 * ix x1) C dX11_duet_47 (hpC rfl rfl) rfl (inb_of rfl g7) rfl ?_
        refine g_getI (k := 2) C dX11_duet_48 (hpC (kboxC (a := 7) rfl g7) rfl) (kboxC (a := 7) rfl g7) fl_X11_147 rfl ?_
        refine g_iload_n (q := 2) C dX11_duet_51 rfl rfl ?_
        refine g_aload_n (q := 0) C dX11_duet_52 rfl rfl ?_
        refine g_getF (k := 2) (q := 6) C dX11_duet_53 (hpC rfl rfl) rfl fl_X11_30 rfl rfl ?_
        refine g_getF (k := 0) (q := 7) C dX11_duet_56 (hpC rfl rfl) rfl fl_X11_140 rfl rfl ?_
        refine g_iload_n (q := 2) C dX11_duet_59 rfl rfl ?_
        obtain ⟨g8, T⟩ := tt_gd T
        refine g_aald (q := 8 + 2 * ix x2) C dX11_duet_60 (hpC rfl rfl) rfl (inb_of rfl g8) rfl ?_
        refine g_getI (k := 2) C dX11_duet_61 (hpC (kboxC (a := 7) rfl g8) rfl) (kboxC (a := 7) rfl g8) fl_X11_147 rfl ?_
        refine g_callV (p := 45) (As := [.int x1, .int (h6.1 (8 + 2 * ix x1) 2), .int x2, .int (h6.1 (8 + 2 * ix x2) 2)]) C dX11_duet_64 ml_X11_259 yv_f2_firstMinute ⟨rfl, rfl⟩ ⟨Nat.le_of_ble_eq_true rfl, Nat.le_of_ble_eq_true rfl⟩ (hpC rfl rfl) rfl rfl rfl (Nat.le_of_ble_eq_true rfl) (ok_f2_firstMinute x1 (h6.1 (8 + 2 * ix x1) 2) x2 (h6.1 (8 + 2 * ix x2) 2) h6 (tt_bind T)) ?_
        rintro _ _ ⟨r9, rfl, rfl, T⟩
        show G ΛC x 67 [(0, .ref 0), (1, .int x1), (2, .int x2)] [.int r9] h6
        exact g_iret C dX11_duet_67 (hR _ _ (tt_some T))
      · have T := tt_t T c5
        refine g_iconst (v := (-1)) C dX11_duet_21 (by decide) ?_
        exact g_iret C dX11_duet_22 (hR _ _ (tt_some T))

theorem ok_f11_duet {l : Launch} {K : Int32 × Hp → Prop} (x1 : Int32) (x2 : Int32) (h : Hp) (T : Tt (f11_duet x1 x2 h) K) : Ok ΛC l yX11_duet cX11_duet 3 (some .int) rm_f11_duet [.ref 0, .int x1, .int x2] h (PIw K) :=
  Ok.of RX11 rfl (by decide) ⟨rfl, rfl⟩ (Nat.le_of_ble_eq_true rfl) (fun x C => k_f11_duet C x1 x2 h (fun v _ q => ⟨v, rfl, q⟩) T)

abbrev rm_f11_fewestUnlike : Room := { frames := 3, cells := 0, slots := 0, locals := 71 }
noncomputable def f11_fewestUnlike_47 (x1 : Int32) (x2 : Int32) (x3 : Int32) (x4 : Int32) (h : Hp) : Option ((Int32 × Int32) ⊕ (Int32)) :=
  some (.inl (x3, x4 + 1))
set_option maxRecDepth 100000 in
set_option maxHeartbeats 4000000 in
theorem k_f11_fewestUnlike_47 {x : Mx} {l : Launch} {post0 : Option Value → Hp → Prop} (C : Cx ΛC x l RX11 cX11_fewestUnlike rm_f11_fewestUnlike (some .int) 5 post0) {K : (Int32 × Int32) ⊕ (Int32) → Prop} (x1 : Int32) (x2 : Int32) (x3 : Int32) (x4 : Int32) (h : Hp) (hR : ∀ v : Int32, K (.inr v) → post0 (some (.int v)) h) (hL6 : ∀ (x3 : Int32) (x4 : Int32), K (.inl (x3, x4)) → G ΛC x 6 [(0, .ref 0), (1, .int x1), (2, .int x2), (3, .int x3), (4, .int x4)] [] h) (T : Tt (f11_fewestUnlike_47 x1 x2 x3 x4 h) K) : G ΛC x 47 [(0, .ref 0), (1, .int x1), (2, .int x2), (3, .int x3), (4, .int x4)] [] h := by
  refine g_iinc (v := x4 + 1) (q := 4) (L' := [(4, .int (x4 + 1)), (0, .ref 0), (1, .int x1), (2, .int x2), (3, .int x3)]) C dX11_fewestUnlike_47 rfl (by first | rfl | exact congrArg _ (by decide)) (by decide) rfl ?_
  refine g_goto (tgt := 6) C dX11_fewestUnlike_50 (by decide) ?_
  refine g_sub [1, 2, 3, 4, 0] rfl ?_
  exact hL6 _ _ (tt_some T)

noncomputable def f11_fewestUnlike_6_s (x1 : Int32) (x2 : Int32) (x3 : Int32) (x4 : Int32) (h : Hp) : Option ((Int32 × Int32) ⊕ (Int32)) :=
  if h.1 6 1 ≤ x4 then (some (.inr x3)) else (if (x1 >>> (x4 &&& 31)) &&& 1 = 1 then ((f2_alikeBy x4 x2 0 h).bind fun r3 => lt ((if 8 - r3 < x3 then 8 - r3 else x3 : Int32)) fun v4 => f11_fewestUnlike_47 x1 x2 v4 x4 h) else (f11_fewestUnlike_47 x1 x2 x3 x4 h))
set_option maxRecDepth 100000 in
set_option maxHeartbeats 4000000 in
theorem k_f11_fewestUnlike_6_s {x : Mx} {l : Launch} {post0 : Option Value → Hp → Prop} (C : Cx ΛC x l RX11 cX11_fewestUnlike rm_f11_fewestUnlike (some .int) 5 post0) {K : (Int32 × Int32) ⊕ (Int32) → Prop} (x1 : Int32) (x2 : Int32) (x3 : Int32) (x4 : Int32) (h : Hp) (hR : ∀ v : Int32, K (.inr v) → post0 (some (.int v)) h) (hL6 : ∀ (x3 : Int32) (x4 : Int32), K (.inl (x3, x4)) → G ΛC x 6 [(0, .ref 0), (1, .int x1), (2, .int x2), (3, .int x3), (4, .int x4)] [] h) (T : Tt (f11_fewestUnlike_6_s x1 x2 x3 x4 h) K) : G ΛC x 6 [(0, .ref 0), (1, .int x1), (2, .int x2), (3, .int x3), (4, .int x4)] [] h := by
  refine g_iload (q := 4) C dX11_fewestUnlike_6 rfl ?_
  refine g_aload_n (q := 0) C dX11_fewestUnlike_8 rfl rfl ?_
  refine g_getF (k := 2) (q := 6) C dX11_fewestUnlike_9 (hpC rfl rfl) rfl fl_X11_30 rfl rfl ?_
  refine g_getI (k := 1) C dX11_fewestUnlike_12 (hpC rfl rfl) rfl fl_X11_263 rfl ?_
  refine g_icmp_ge (tgt := 53) C dX11_fewestUnlike_15 (by decide) (fun c1 => ?_) (fun c1 => ?_)
  · have T := tt_t T c1
    refine g_iload_n (q := 3) C dX11_fewestUnlike_53 rfl rfl ?_
    exact g_iret C dX11_fewestUnlike_54 (hR _ (tt_some T))
  · have T := tt_f T c1
    refine g_iload_n (q := 1) C dX11_fewestUnlike_18 rfl rfl ?_
    refine g_iload (q := 4) C dX11_fewestUnlike_19 rfl ?_
    refine g_ishr C dX11_fewestUnlike_21 ?_
    refine g_iconst (v := 1) C dX11_fewestUnlike_22 (by decide) ?_
    refine g_iand C dX11_fewestUnlike_23 ?_
    refine g_iconst (v := 1) C dX11_fewestUnlike_24 (by decide) ?_
    refine g_icmp_ne (tgt := 47) C dX11_fewestUnlike_25 (by decide) (fun c2 => ?_) (fun c2 => ?_)
    · have T := tt_f T c2
      exact k_f11_fewestUnlike_47 C x1 x2 x3 x4 h hR hL6 T
    · have T := tt_t T c2
      refine g_iload_n (q := 3) C dX11_fewestUnlike_28 rfl rfl ?_
      refine g_bipush (v := 8) C dX11_fewestUnlike_29 (by decide) ?_
      refine g_aload_n (q := 0) C dX11_fewestUnlike_31 rfl rfl ?_
      refine g_getF (k := 6) (q := 45) C dX11_fewestUnlike_32 (hpC rfl rfl) rfl fl_X11_54 rfl rfl ?_
      refine g_iload (q := 4) C dX11_fewestUnlike_35 rfl ?_
      refine g_iload_n (q := 2) C dX11_fewestUnlike_37 rfl rfl ?_
      refine g_iconst (v := 0) C dX11_fewestUnlike_38 (by decide) ?_
      refine g_callV (p := 45) (As := [.int x4, .int x2, .int 0]) C dX11_fewestUnlike_39 ml_X11_235 yv_f2_alikeBy ⟨rfl, rfl⟩ ⟨Nat.le_of_ble_eq_true rfl, Nat.le_of_ble_eq_true rfl⟩ (hpC rfl rfl) rfl rfl rfl (Nat.le_of_ble_eq_true rfl) (ok_f2_alikeBy x4 x2 0 h (tt_bind T)) ?_
      rintro _ _ ⟨r3, rfl, rfl, T⟩
      show G ΛC x 42 [(0, .ref 0), (1, .int x1), (2, .int x2), (3, .int x3), (4, .int x4)] [.int r3, .int 8, .int x3] h
      refine g_isub C dX11_fewestUnlike_42 ?_
      refine g_mmin C dX11_fewestUnlike_43 mm_X11_211 ms_min mi_math mc_min (Nat.le_of_ble_eq_true rfl) (Nat.le_of_ble_eq_true rfl) ?_
      obtain ⟨v4, ev4, T⟩ := tt_lt T
      refine g_nameI ev4 ?_
      refine g_istore_n (L' := [(3, .int v4), (0, .ref 0), (1, .int x1), (2, .int x2), (4, .int x4)]) C dX11_fewestUnlike_46 rfl (by decide) rfl ?_
      refine g_sub [1, 2, 3, 0, 4] rfl ?_
      exact k_f11_fewestUnlike_47 C x1 x2 v4 x4 h hR hL6 T

noncomputable def f11_fewestUnlike_6 (x1 : Int32) (x2 : Int32) (x3 : Int32) (x4 : Int32) (h : Hp) : Option (Int32) := lp (fun z : Int32 × Int32 => f11_fewestUnlike_6_s x1 x2 z.1 z.2 h) (x3, x4)
theorem k_f11_fewestUnlike_6 {x : Mx} {l : Launch} {post0 : Option Value → Hp → Prop} (C : Cx ΛC x l RX11 cX11_fewestUnlike rm_f11_fewestUnlike (some .int) 5 post0) {K : Int32 → Prop} (x1 : Int32) (x2 : Int32) (x3 : Int32) (x4 : Int32) (h : Hp) (hR : ∀ v : Int32, K v → post0 (some (.int v)) h) (T : Tt (f11_fewestUnlike_6 x1 x2 x3 x4 h) K) : G ΛC x 6 [(0, .ref 0), (1, .int x1), (2, .int x2), (3, .int x3), (4, .int x4)] [] h :=
  lp_ind (f := fun z : Int32 × Int32 => f11_fewestUnlike_6_s x1 x2 z.1 z.2 h) (P := fun z : Int32 × Int32 => G ΛC x 6 [(0, .ref 0), (1, .int x1), (2, .int x2), (3, .int z.1), (4, .int z.2)] [] h) (K := K) (fun z T => k_f11_fewestUnlike_6_s C (K := KS (fun z : Int32 × Int32 => G ΛC x 6 [(0, .ref 0), (1, .int x1), (2, .int x2), (3, .int z.1), (4, .int z.2)] [] h) K) x1 x2 z.1 z.2 h hR (fun _ _ q => q) T) (x3, x4) T
noncomputable def f11_fewestUnlike (x1 : Int32) (x2 : Int32) (h : Hp) : Option (Int32) :=
  f11_fewestUnlike_6 x1 x2 8 0 h
set_option maxRecDepth 100000 in
set_option maxHeartbeats 4000000 in
theorem k_f11_fewestUnlike {x : Mx} {l : Launch} {post0 : Option Value → Hp → Prop} (C : Cx ΛC x l RX11 cX11_fewestUnlike rm_f11_fewestUnlike (some .int) 5 post0) {K : Int32 → Prop} (x1 : Int32) (x2 : Int32) (h : Hp) (hR : ∀ v : Int32, K v → post0 (some (.int v)) h) (T : Tt (f11_fewestUnlike x1 x2 h) K) : G ΛC x 0 [(0, .ref 0), (1, .int x1), (2, .int x2)] [] h := by
  refine g_bipush (v := 8) C dX11_fewestUnlike_0 (by decide) ?_
  refine g_istore_n (L' := [(3, .int 8), (0, .ref 0), (1, .int x1), (2, .int x2)]) C dX11_fewestUnlike_2 rfl (by decide) rfl ?_
  refine g_iconst (v := 0) C dX11_fewestUnlike_3 (by decide) ?_
  refine g_istore (L' := [(4, .int 0), (3, .int 8), (0, .ref 0), (1, .int x1), (2, .int x2)]) C dX11_fewestUnlike_4 (by decide) rfl ?_
  refine g_sub [2, 3, 4, 1, 0] rfl ?_
  exact k_f11_fewestUnlike_6 C x1 x2 8 0 h hR T

theorem ok_f11_fewestUnlike {l : Launch} {K : Int32 → Prop} (x1 : Int32) (x2 : Int32) (h : Hp) (T : Tt (f11_fewestUnlike x1 x2 h) K) : Ok ΛC l yX11_fewestUnlike cX11_fewestUnlike 5 (some .int) rm_f11_fewestUnlike [.ref 0, .int x1, .int x2] h (PIs K h) :=
  Ok.of RX11 rfl (by decide) ⟨rfl, rfl⟩ (Nat.le_of_ble_eq_true rfl) (fun x C => k_f11_fewestUnlike C x1 x2 h (fun v q => ⟨v, rfl, rfl, q⟩) T)

abbrev rm_f11_nearestTo : Room := { frames := 4, cells := 0, slots := 0, locals := 95 }
noncomputable def f11_nearestTo_45 (x1 : Int32) (x2 : Int32) (x3 : Int32) (h : Hp) : Option ((Int32 × Int32) ⊕ (Int32)) :=
  some (.inl (x2, x3 + 1))
set_option maxRecDepth 100000 in
set_option maxHeartbeats 4000000 in
theorem k_f11_nearestTo_45 {x : Mx} {l : Launch} {post0 : Option Value → Hp → Prop} (C : Cx ΛC x l RX11 cX11_nearestTo rm_f11_nearestTo (some .int) 4 post0) {K : (Int32 × Int32) ⊕ (Int32) → Prop} (x1 : Int32) (x2 : Int32) (x3 : Int32) (h : Hp) (hR : ∀ v : Int32, K (.inr v) → post0 (some (.int v)) h) (hL4 : ∀ (x2 : Int32) (x3 : Int32), K (.inl (x2, x3)) → G ΛC x 4 [(0, .ref 0), (1, .int x1), (2, .int x2), (3, .int x3)] [] h) (T : Tt (f11_nearestTo_45 x1 x2 x3 h) K) : G ΛC x 45 [(0, .ref 0), (1, .int x1), (2, .int x2), (3, .int x3)] [] h := by
  refine g_iinc (v := x3 + 1) (q := 3) (L' := [(3, .int (x3 + 1)), (0, .ref 0), (1, .int x1), (2, .int x2)]) C dX11_nearestTo_45 rfl (by first | rfl | exact congrArg _ (by decide)) (by decide) rfl ?_
  refine g_goto (tgt := 4) C dX11_nearestTo_48 (by decide) ?_
  refine g_sub [1, 2, 3, 0] rfl ?_
  exact hL4 _ _ (tt_some T)

noncomputable def f11_nearestTo_43 (x1 : Int32) (x3 : Int32) (h : Hp) : Option ((Int32 × Int32) ⊕ (Int32)) :=
  f11_nearestTo_45 x1 x3 x3 h
set_option maxRecDepth 100000 in
set_option maxHeartbeats 4000000 in
theorem k_f11_nearestTo_43 {x : Mx} {l : Launch} {post0 : Option Value → Hp → Prop} (C : Cx ΛC x l RX11 cX11_nearestTo rm_f11_nearestTo (some .int) 4 post0) {K : (Int32 × Int32) ⊕ (Int32) → Prop} (x1 : Int32) (x3 : Int32) (h : Hp) (hR : ∀ v : Int32, K (.inr v) → post0 (some (.int v)) h) (hL4 : ∀ (x2 : Int32) (x3 : Int32), K (.inl (x2, x3)) → G ΛC x 4 [(0, .ref 0), (1, .int x1), (2, .int x2), (3, .int x3)] [] h) (T : Tt (f11_nearestTo_43 x1 x3 h) K) : G ΛC x 43 [(0, .ref 0), (1, .int x1), (3, .int x3)] [] h := by
  refine g_iload_n (q := 2) C dX11_nearestTo_43 rfl rfl ?_
  refine g_istore_n (L' := [(2, .int x3), (0, .ref 0), (1, .int x1), (3, .int x3)]) C dX11_nearestTo_44 rfl (by decide) rfl ?_
  refine g_sub [1, 2, 0, 3] rfl ?_
  exact k_f11_nearestTo_45 C x1 x3 x3 h hR hL4 T

noncomputable def f11_nearestTo_4_s (x1 : Int32) (x2 : Int32) (x3 : Int32) (h : Hp) : Option ((Int32 × Int32) ⊕ (Int32)) :=
  if h.1 6 1 ≤ x3 then (some (.inr x2)) else (if (x1 >>> (x3 &&& 31)) &&& 1 = 0 then (if x2 = (-1) then (f11_nearestTo_43 x1 x3 h) else ((f11_fewestUnlike x1 x3 h).bind fun r4 => (f11_fewestUnlike x1 x2 h).bind fun r5 => if r5 ≤ r4 then (f11_nearestTo_45 x1 x2 x3 h) else (f11_nearestTo_43 x1 x3 h))) else (f11_nearestTo_45 x1 x2 x3 h))
set_option maxRecDepth 100000 in
set_option maxHeartbeats 4000000 in
theorem k_f11_nearestTo_4_s {x : Mx} {l : Launch} {post0 : Option Value → Hp → Prop} (C : Cx ΛC x l RX11 cX11_nearestTo rm_f11_nearestTo (some .int) 4 post0) {K : (Int32 × Int32) ⊕ (Int32) → Prop} (x1 : Int32) (x2 : Int32) (x3 : Int32) (h : Hp) (hR : ∀ v : Int32, K (.inr v) → post0 (some (.int v)) h) (hL4 : ∀ (x2 : Int32) (x3 : Int32), K (.inl (x2, x3)) → G ΛC x 4 [(0, .ref 0), (1, .int x1), (2, .int x2), (3, .int x3)] [] h) (T : Tt (f11_nearestTo_4_s x1 x2 x3 h) K) : G ΛC x 4 [(0, .ref 0), (1, .int x1), (2, .int x2), (3, .int x3)] [] h := by
  refine g_iload_n (q := 3) C dX11_nearestTo_4 rfl rfl ?_
  refine g_aload_n (q := 0) C dX11_nearestTo_5 rfl rfl ?_
  refine g_getF (k := 2) (q := 6) C dX11_nearestTo_6 (hpC rfl rfl) rfl fl_X11_30 rfl rfl ?_
  refine g_getI (k := 1) C dX11_nearestTo_9 (hpC rfl rfl) rfl fl_X11_263 rfl ?_
  refine g_icmp_ge (tgt := 51) C dX11_nearestTo_12 (by decide) (fun c1 => ?_) (fun c1 => ?_)
  · have T := tt_t T c1
    refine g_iload_n (q := 2) C dX11_nearestTo_51 rfl rfl ?_
    exact g_iret C dX11_nearestTo_52 (hR _ (tt_some T))
  · have T := tt_f T c1
    refine g_iload_n (q := 1) C dX11_nearestTo_15 rfl rfl ?_
    refine g_iload_n (q := 3) C dX11_nearestTo_16 rfl rfl ?_
    refine g_ishr C dX11_nearestTo_17 ?_
    refine g_iconst (v := 1) C dX11_nearestTo_18 (by decide) ?_
    refine g_iand C dX11_nearestTo_19 ?_
    refine g_if_ne (tgt := 45) C dX11_nearestTo_20 (by decide) (fun c2 => ?_) (fun c2 => ?_)
    · have T := tt_f T c2
      exact k_f11_nearestTo_45 C x1 x2 x3 h hR hL4 T
    · have T := tt_t T c2
      refine g_iload_n (q := 2) C dX11_nearestTo_23 rfl rfl ?_
      refine g_iconst (v := (-1)) C dX11_nearestTo_24 (by decide) ?_
      refine g_icmp_eq (tgt := 43) C dX11_nearestTo_25 (by decide) (fun c3 => ?_) (fun c3 => ?_)
      · have T := tt_t T c3
        refine g_sub [0, 1, 3] rfl ?_
        exact k_f11_nearestTo_43 C x1 x3 h hR hL4 T
      · have T := tt_f T c3
        refine g_aload_n (q := 0) C dX11_nearestTo_28 rfl rfl ?_
        refine g_iload_n (q := 1) C dX11_nearestTo_29 rfl rfl ?_
        refine g_iload_n (q := 3) C dX11_nearestTo_30 rfl rfl ?_
        refine g_callV (p := 0) (As := [.int x1, .int x3]) C dX11_nearestTo_31 ml_X11_269 yv_f11_fewestUnlike ⟨rfl, rfl⟩ ⟨Nat.le_of_ble_eq_true rfl, Nat.le_of_ble_eq_true rfl⟩ (hpC rfl rfl) rfl rfl rfl (Nat.le_of_ble_eq_true rfl) (ok_f11_fewestUnlike x1 x3 h (tt_bind T)) ?_
        rintro _ _ ⟨r4, rfl, rfl, T⟩
        show G ΛC x 34 [(0, .ref 0), (1, .int x1), (2, .int x2), (3, .int x3)] [.int r4] h
        refine g_aload_n (q := 0) C dX11_nearestTo_34 rfl rfl ?_
        refine g_iload_n (q := 1) C dX11_nearestTo_35 rfl rfl ?_
        refine g_iload_n (q := 2) C dX11_nearestTo_36 rfl rfl ?_
        refine g_callV (p := 0) (As := [.int x1, .int x2]) C dX11_nearestTo_37 ml_X11_269 yv_f11_fewestUnlike ⟨rfl, rfl⟩ ⟨Nat.le_of_ble_eq_true rfl, Nat.le_of_ble_eq_true rfl⟩ (hpC rfl rfl) rfl rfl rfl (Nat.le_of_ble_eq_true rfl) (ok_f11_fewestUnlike x1 x2 h (tt_bind T)) ?_
        rintro _ _ ⟨r5, rfl, rfl, T⟩
        show G ΛC x 40 [(0, .ref 0), (1, .int x1), (2, .int x2), (3, .int x3)] [.int r5, .int r4] h
        refine g_icmp_ge (tgt := 45) C dX11_nearestTo_40 (by decide) (fun c6 => ?_) (fun c6 => ?_)
        · have T := tt_t T c6
          exact k_f11_nearestTo_45 C x1 x2 x3 h hR hL4 T
        · have T := tt_f T c6
          refine g_sub [0, 1, 3] rfl ?_
          exact k_f11_nearestTo_43 C x1 x3 h hR hL4 T

noncomputable def f11_nearestTo_4 (x1 : Int32) (x2 : Int32) (x3 : Int32) (h : Hp) : Option (Int32) := lp (fun z : Int32 × Int32 => f11_nearestTo_4_s x1 z.1 z.2 h) (x2, x3)
theorem k_f11_nearestTo_4 {x : Mx} {l : Launch} {post0 : Option Value → Hp → Prop} (C : Cx ΛC x l RX11 cX11_nearestTo rm_f11_nearestTo (some .int) 4 post0) {K : Int32 → Prop} (x1 : Int32) (x2 : Int32) (x3 : Int32) (h : Hp) (hR : ∀ v : Int32, K v → post0 (some (.int v)) h) (T : Tt (f11_nearestTo_4 x1 x2 x3 h) K) : G ΛC x 4 [(0, .ref 0), (1, .int x1), (2, .int x2), (3, .int x3)] [] h :=
  lp_ind (f := fun z : Int32 × Int32 => f11_nearestTo_4_s x1 z.1 z.2 h) (P := fun z : Int32 × Int32 => G ΛC x 4 [(0, .ref 0), (1, .int x1), (2, .int z.1), (3, .int z.2)] [] h) (K := K) (fun z T => k_f11_nearestTo_4_s C (K := KS (fun z : Int32 × Int32 => G ΛC x 4 [(0, .ref 0), (1, .int x1), (2, .int z.1), (3, .int z.2)] [] h) K) x1 z.1 z.2 h hR (fun _ _ q => q) T) (x2, x3) T
noncomputable def f11_nearestTo (x1 : Int32) (h : Hp) : Option (Int32) :=
  f11_nearestTo_4 x1 (-1) 0 h
set_option maxRecDepth 100000 in
set_option maxHeartbeats 4000000 in
theorem k_f11_nearestTo {x : Mx} {l : Launch} {post0 : Option Value → Hp → Prop} (C : Cx ΛC x l RX11 cX11_nearestTo rm_f11_nearestTo (some .int) 4 post0) {K : Int32 → Prop} (x1 : Int32) (h : Hp) (hR : ∀ v : Int32, K v → post0 (some (.int v)) h) (T : Tt (f11_nearestTo x1 h) K) : G ΛC x 0 [(0, .ref 0), (1, .int x1)] [] h := by
  refine g_iconst (v := (-1)) C dX11_nearestTo_0 (by decide) ?_
  refine g_istore_n (L' := [(2, .int (-1)), (0, .ref 0), (1, .int x1)]) C dX11_nearestTo_1 rfl (by decide) rfl ?_
  refine g_iconst (v := 0) C dX11_nearestTo_2 (by decide) ?_
  refine g_istore_n (L' := [(3, .int 0), (2, .int (-1)), (0, .ref 0), (1, .int x1)]) C dX11_nearestTo_3 rfl (by decide) rfl ?_
  refine g_sub [2, 3, 1, 0] rfl ?_
  exact k_f11_nearestTo_4 C x1 (-1) 0 h hR T

theorem ok_f11_nearestTo {l : Launch} {K : Int32 → Prop} (x1 : Int32) (h : Hp) (T : Tt (f11_nearestTo x1 h) K) : Ok ΛC l yX11_nearestTo cX11_nearestTo 4 (some .int) rm_f11_nearestTo [.ref 0, .int x1] h (PIs K h) :=
  Ok.of RX11 rfl (by decide) ⟨rfl, rfl⟩ (Nat.le_of_ble_eq_true rfl) (fun x C => k_f11_nearestTo C x1 h (fun v q => ⟨v, rfl, rfl, q⟩) T)

abbrev rm_f11_tree : Room := { frames := 5, cells := 0, slots := 0, locals := 118 }
noncomputable def f11_tree_58 (x1 : Int32) (x2 : Int32) (x3 : Int32) (h : Hp) : Option ((Int32 × Int32 × Int32) ⊕ (Int32 × Hp)) :=
  some (.inl (x1, x2, x3 + 1))
set_option maxRecDepth 100000 in
set_option maxHeartbeats 4000000 in
theorem k_f11_tree_58 {x : Mx} {l : Launch} {post0 : Option Value → Hp → Prop} (C : Cx ΛC x l RX11 cX11_tree rm_f11_tree (some .int) 5 post0) {K : (Int32 × Int32 × Int32) ⊕ (Int32 × Hp) → Prop} (x1 : Int32) (x2 : Int32) (x3 : Int32) (h : Hp) (hR : ∀ (v : Int32) (h : Hp), K (.inr (v, h)) → post0 (some (.int v)) h) (hL17 : ∀ (x1 : Int32) (x2 : Int32) (x3 : Int32), K (.inl (x1, x2, x3)) → G ΛC x 17 [(0, .ref 0), (1, .int x1), (2, .int x2), (3, .int x3)] [] h) (T : Tt (f11_tree_58 x1 x2 x3 h) K) : G ΛC x 58 [(0, .ref 0), (1, .int x1), (2, .int x2), (3, .int x3)] [] h := by
  refine g_iinc (v := x3 + 1) (q := 3) (L' := [(3, .int (x3 + 1)), (0, .ref 0), (1, .int x1), (2, .int x2)]) C dX11_tree_58 rfl (by first | rfl | exact congrArg _ (by decide)) (by decide) rfl ?_
  refine g_goto (tgt := 17) C dX11_tree_61 (by decide) ?_
  refine g_sub [1, 2, 3, 0] rfl ?_
  exact hL17 _ _ _ (tt_some T)

noncomputable def f11_tree_17_s (x1 : Int32) (x2 : Int32) (x3 : Int32) (h : Hp) : Option ((Int32 × Int32 × Int32) ⊕ (Int32 × Hp)) :=
  if h.1 6 1 ≤ x3 then (some (.inr (x2, h))) else ((f11_nearestTo x1 h).bind fun r3 => if r3 = (-1) then (f11_tree_58 x1 x2 x3 h) else ((f11_fewestUnlike x1 r3 h).bind fun r5 => lt (x2 + r5) fun v6 => lt (x1 ||| (1 <<< (r3 &&& 31))) fun v7 => f11_tree_58 v7 v6 x3 h))
set_option maxRecDepth 100000 in
set_option maxHeartbeats 4000000 in
theorem k_f11_tree_17_s {x : Mx} {l : Launch} {post0 : Option Value → Hp → Prop} (C : Cx ΛC x l RX11 cX11_tree rm_f11_tree (some .int) 5 post0) {K : (Int32 × Int32 × Int32) ⊕ (Int32 × Hp) → Prop} (x1 : Int32) (x2 : Int32) (x3 : Int32) (h : Hp) (hR : ∀ (v : Int32) (h : Hp), K (.inr (v, h)) → post0 (some (.int v)) h) (hL17 : ∀ (x1 : Int32) (x2 : Int32) (x3 : Int32), K (.inl (x1, x2, x3)) → G ΛC x 17 [(0, .ref 0), (1, .int x1), (2, .int x2), (3, .int x3)] [] h) (T : Tt (f11_tree_17_s x1 x2 x3 h) K) : G ΛC x 17 [(0, .ref 0), (1, .int x1), (2, .int x2), (3, .int x3)] [] h := by
  refine g_iload_n (q := 3) C dX11_tree_17 rfl rfl ?_
  refine g_aload_n (q := 0) C dX11_tree_18 rfl rfl ?_
  refine g_getF (k := 2) (q := 6) C dX11_tree_19 (hpC rfl rfl) rfl fl_X11_30 rfl rfl ?_
  refine g_getI (k := 1) C dX11_tree_22 (hpC rfl rfl) rfl fl_X11_263 rfl ?_
  refine g_icmp_ge (tgt := 64) C dX11_tree_25 (by decide) (fun c2 => ?_) (fun c2 => ?_)
  · have T := tt_t T c2
    refine g_iload_n (q := 2) C dX11_tree_64 rfl rfl ?_
    exact g_iret C dX11_tree_65 (hR _ _ (tt_some T))
  · have T := tt_f T c2
    refine g_aload_n (q := 0) C dX11_tree_28 rfl rfl ?_
    refine g_iload_n (q := 1) C dX11_tree_29 rfl rfl ?_
    refine g_callV (p := 0) (As := [.int x1]) C dX11_tree_30 ml_X11_266 yv_f11_nearestTo ⟨rfl, rfl⟩ ⟨Nat.le_of_ble_eq_true rfl, Nat.le_of_ble_eq_true rfl⟩ (hpC rfl rfl) rfl rfl rfl (Nat.le_of_ble_eq_true rfl) (ok_f11_nearestTo x1 h (tt_bind T)) ?_
    rintro _ _ ⟨r3, rfl, rfl, T⟩
    show G ΛC x 33 [(0, .ref 0), (1, .int x1), (2, .int x2), (3, .int x3)] [.int r3] h
    refine g_istore (L' := [(4, .int r3), (0, .ref 0), (1, .int x1), (2, .int x2), (3, .int x3)]) C dX11_tree_33 (by decide) rfl ?_
    refine g_iload (q := 0) C dX11_tree_35 rfl ?_
    refine g_iconst (v := (-1)) C dX11_tree_37 (by decide) ?_
    refine g_icmp_eq (tgt := 58) C dX11_tree_38 (by decide) (fun c4 => ?_) (fun c4 => ?_)
    · have T := tt_t T c4
      refine g_sub [1, 2, 3, 4] rfl ?_
      exact k_f11_tree_58 C x1 x2 x3 h hR hL17 T
    · have T := tt_f T c4
      refine g_iload_n (q := 3) C dX11_tree_41 rfl rfl ?_
      refine g_aload_n (q := 1) C dX11_tree_42 rfl rfl ?_
      refine g_iload_n (q := 2) C dX11_tree_43 rfl rfl ?_
      refine g_iload (q := 0) C dX11_tree_44 rfl ?_
      refine g_callV (p := 0) (As := [.int x1, .int r3]) C dX11_tree_46 ml_X11_269 yv_f11_fewestUnlike ⟨rfl, rfl⟩ ⟨Nat.le_of_ble_eq_true rfl, Nat.le_of_ble_eq_true rfl⟩ (hpC rfl rfl) rfl rfl rfl (Nat.le_of_ble_eq_true rfl) (ok_f11_fewestUnlike x1 r3 h (tt_bind T)) ?_
      rintro _ _ ⟨r5, rfl, rfl, T⟩
      show G ΛC x 49 [(4, .int r3), (0, .ref 0), (1, .int x1), (2, .int x2), (3, .int x3)] [.int r5, .int x2] h
      refine g_iadd C dX11_tree_49 ?_
      obtain ⟨v6, ev6, T⟩ := tt_lt T
      refine g_nameI ev6 ?_
      refine g_istore_n (L' := [(2, .int v6), (4, .int r3), (0, .ref 0), (1, .int x1), (3, .int x3)]) C dX11_tree_50 rfl (by decide) rfl ?_
      refine g_iload_n (q := 3) C dX11_tree_51 rfl rfl ?_
      refine g_iconst (v := 1) C dX11_tree_52 (by decide) ?_
      refine g_iload (q := 1) C dX11_tree_53 rfl ?_
      refine g_ishl C dX11_tree_55 ?_
      refine g_ior C dX11_tree_56 ?_
      obtain ⟨v7, ev7, T⟩ := tt_lt T
      refine g_nameI ev7 ?_
      refine g_istore_n (L' := [(1, .int v7), (2, .int v6), (4, .int r3), (0, .ref 0), (3, .int x3)]) C dX11_tree_57 rfl (by decide) rfl ?_
      refine g_sub [3, 0, 1, 4] rfl ?_
      exact k_f11_tree_58 C v7 v6 x3 h hR hL17 T

noncomputable def f11_tree_17 (x1 : Int32) (x2 : Int32) (x3 : Int32) (h : Hp) : Option (Int32 × Hp) := lp (fun z : Int32 × Int32 × Int32 => f11_tree_17_s z.1 z.2.1 z.2.2 h) (x1, x2, x3)
theorem k_f11_tree_17 {x : Mx} {l : Launch} {post0 : Option Value → Hp → Prop} (C : Cx ΛC x l RX11 cX11_tree rm_f11_tree (some .int) 5 post0) {K : Int32 × Hp → Prop} (x1 : Int32) (x2 : Int32) (x3 : Int32) (h : Hp) (hR : ∀ (v : Int32) (h : Hp), K (v, h) → post0 (some (.int v)) h) (T : Tt (f11_tree_17 x1 x2 x3 h) K) : G ΛC x 17 [(0, .ref 0), (1, .int x1), (2, .int x2), (3, .int x3)] [] h :=
  lp_ind (f := fun z : Int32 × Int32 × Int32 => f11_tree_17_s z.1 z.2.1 z.2.2 h) (P := fun z : Int32 × Int32 × Int32 => G ΛC x 17 [(0, .ref 0), (1, .int z.1), (2, .int z.2.1), (3, .int z.2.2)] [] h) (K := K) (fun z T => k_f11_tree_17_s C (K := KS (fun z : Int32 × Int32 × Int32 => G ΛC x 17 [(0, .ref 0), (1, .int z.1), (2, .int z.2.1), (3, .int z.2.2)] [] h) K) z.1 z.2.1 z.2.2 h hR (fun _ _ _ q => q) T) (x1, x2, x3) T
noncomputable def f11_tree (h : Hp) : Option (Int32 × Hp) :=
  (f2_listen 6 h).bind fun h1 => f11_tree_17 1 0 1 h1
set_option maxRecDepth 100000 in
set_option maxHeartbeats 4000000 in
theorem k_f11_tree {x : Mx} {l : Launch} {post0 : Option Value → Hp → Prop} (C : Cx ΛC x l RX11 cX11_tree rm_f11_tree (some .int) 5 post0) {K : Int32 × Hp → Prop} (h : Hp) (hR : ∀ (v : Int32) (h : Hp), K (v, h) → post0 (some (.int v)) h) (T : Tt (f11_tree h) K) : G ΛC x 0 [(0, .ref 0)] [] h := by
  refine g_aload_n (q := 0) C dX11_tree_0 rfl rfl ?_
  refine g_getF (k := 6) (q := 45) C dX11_tree_1 (hpC rfl rfl) rfl fl_X11_54 rfl rfl ?_
  refine g_aload_n (q := 0) C dX11_tree_4 rfl rfl ?_
  refine g_getF (k := 2) (q := 6) C dX11_tree_5 (hpC rfl rfl) rfl fl_X11_30 rfl rfl ?_
  refine g_callV (p := 45) (As := [.ref 6]) C dX11_tree_8 ml_X11_231 yv_f2_listen ⟨rfl, rfl⟩ ⟨Nat.le_of_ble_eq_true rfl, Nat.le_of_ble_eq_true rfl⟩ (hpC rfl rfl) rfl rfl rfl (Nat.le_of_ble_eq_true rfl) (ok_f2_listen 6 rfl h (tt_bind T)) ?_
  rintro _ h1 ⟨rfl, T⟩
  show G ΛC x 11 [(0, .ref 0)] [] h1
  refine g_iconst (v := 1) C dX11_tree_11 (by decide) ?_
  refine g_istore_n (L' := [(1, .int 1), (0, .ref 0)]) C dX11_tree_12 rfl (by decide) rfl ?_
  refine g_iconst (v := 0) C dX11_tree_13 (by decide) ?_
  refine g_istore_n (L' := [(2, .int 0), (1, .int 1), (0, .ref 0)]) C dX11_tree_14 rfl (by decide) rfl ?_
  refine g_iconst (v := 1) C dX11_tree_15 (by decide) ?_
  refine g_istore_n (L' := [(3, .int 1), (2, .int 0), (1, .int 1), (0, .ref 0)]) C dX11_tree_16 rfl (by decide) rfl ?_
  refine g_sub [3, 2, 1, 0] rfl ?_
  exact k_f11_tree_17 C 1 0 1 h1 hR T

theorem ok_f11_tree {l : Launch} {K : Int32 × Hp → Prop} (h : Hp) (T : Tt (f11_tree h) K) : Ok ΛC l yX11_tree cX11_tree 5 (some .int) rm_f11_tree [.ref 0] h (PIw K) :=
  Ok.of RX11 rfl (by decide) ⟨rfl, rfl⟩ (Nat.le_of_ble_eq_true rfl) (fun x C => k_f11_tree C h (fun v _ q => ⟨v, rfl, q⟩) T)

abbrev rm_f11_stepsOfKin : Room := { frames := 0, cells := 0, slots := 0, locals := 0 }
noncomputable def f11_stepsOfKin_78 (x2 : Int32) (x4 : Int32) (x5 : Int32) (h : Hp) : Option ((Int32 × Int32) ⊕ (Int32)) :=
  some (.inl (x5, x4 + 1))
set_option maxRecDepth 100000 in
set_option maxHeartbeats 4000000 in
theorem k_f11_stepsOfKin_78 {x : Mx} {l : Launch} {post0 : Option Value → Hp → Prop} (C : Cx ΛC x l RX11 cX11_stepsOfKin rm_f11_stepsOfKin (some .int) 7 post0) {K : (Int32 × Int32) ⊕ (Int32) → Prop} (x2 : Int32) (x4 : Int32) (x5 : Int32) (h : Hp) (hR : ∀ v : Int32, K (.inr v) → post0 (some (.int v)) h) (hL7 : ∀ (x3 : Int32) (x4 : Int32), K (.inl (x3, x4)) → G ΛC x 7 [(0, .ref 0), (2, .int x2), (3, .int x3), (4, .int x4)] [] h) (T : Tt (f11_stepsOfKin_78 x2 x4 x5 h) K) : G ΛC x 78 [(0, .ref 0), (2, .int x2), (4, .int x4), (5, .int x5)] [] h := by
  refine g_iload (q := 3) C dX11_stepsOfKin_78 rfl ?_
  refine g_istore_n (L' := [(3, .int x5), (0, .ref 0), (2, .int x2), (4, .int x4), (5, .int x5)]) C dX11_stepsOfKin_80 rfl (by decide) rfl ?_
  refine g_iinc (v := x4 + 1) (q := 3) (L' := [(4, .int (x4 + 1)), (3, .int x5), (0, .ref 0), (2, .int x2), (5, .int x5)]) C dX11_stepsOfKin_81 rfl (by first | rfl | exact congrArg _ (by decide)) (by decide) rfl ?_
  refine g_goto (tgt := 7) C dX11_stepsOfKin_84 (by decide) ?_
  refine g_sub [2, 3, 1, 0] rfl ?_
  exact hL7 _ _ (tt_some T)

noncomputable def f11_stepsOfKin_72 (x2 : Int32) (x3 : Int32) (x4 : Int32) (x5 : Int32) (x6 : Int32) (h : Hp) : Option ((Int32 × Int32) ⊕ ((Int32 × Int32) ⊕ (Int32))) :=
  some (.inl (x5, x6 + 1))
set_option maxRecDepth 100000 in
set_option maxHeartbeats 4000000 in
theorem k_f11_stepsOfKin_72 {x : Mx} {l : Launch} {post0 : Option Value → Hp → Prop} (C : Cx ΛC x l RX11 cX11_stepsOfKin rm_f11_stepsOfKin (some .int) 7 post0) {K : (Int32 × Int32) ⊕ ((Int32 × Int32) ⊕ (Int32)) → Prop} (x2 : Int32) (x3 : Int32) (x4 : Int32) (x5 : Int32) (x6 : Int32) (h : Hp) (hR : ∀ v : Int32, K (.inr (.inr v)) → post0 (some (.int v)) h) (hL7 : ∀ (x3 : Int32) (x4 : Int32), K (.inr (.inl (x3, x4))) → G ΛC x 7 [(0, .ref 0), (2, .int x2), (3, .int x3), (4, .int x4)] [] h) (hL32 : ∀ (x5 : Int32) (x6 : Int32), K (.inl (x5, x6)) → G ΛC x 32 [(0, .ref 0), (2, .int x2), (3, .int x3), (4, .int x4), (5, .int x5), (6, .int x6)] [] h) (T : Tt (f11_stepsOfKin_72 x2 x3 x4 x5 x6 h) K) : G ΛC x 72 [(0, .ref 0), (2, .int x2), (3, .int x3), (4, .int x4), (5, .int x5), (6, .int x6)] [] h := by
  refine g_iinc (v := x6 + 1) (q := 5) (L' := [(6, .int (x6 + 1)), (0, .ref 0), (2, .int x2), (3, .int x3), (4, .int x4), (5, .int x5)]) C dX11_stepsOfKin_72 rfl (by first | rfl | exact congrArg _ (by decide)) (by decide) rfl ?_
  refine g_goto (tgt := 32) C dX11_stepsOfKin_75 (by decide) ?_
  refine g_sub [1, 2, 3, 4, 5, 0] rfl ?_
  exact hL32 _ _ (tt_some T)

noncomputable def f11_stepsOfKin_32_s (x2 : Int32) (x3 : Int32) (x4 : Int32) (x5 : Int32) (x6 : Int32) (h : Hp) : Option ((Int32 × Int32) ⊕ ((Int32 × Int32) ⊕ (Int32))) :=
  if h.1 6 1 ≤ x6 then ((f11_stepsOfKin_78 x2 x4 x5 h).map (fun z => .inr (z))) else (if (x3 >>> (x6 &&& 31)) &&& 1 = 1 then (gd (inb x6 6) <| lt (x5 ||| (h.1 (8 + 2 * ix x6) 4)) fun v7 => f11_stepsOfKin_72 x2 x3 x4 v7 x6 h) else (f11_stepsOfKin_72 x2 x3 x4 x5 x6 h))
set_option maxRecDepth 100000 in
set_option maxHeartbeats 4000000 in
theorem k_f11_stepsOfKin_32_s {x : Mx} {l : Launch} {post0 : Option Value → Hp → Prop} (C : Cx ΛC x l RX11 cX11_stepsOfKin rm_f11_stepsOfKin (some .int) 7 post0) {K : (Int32 × Int32) ⊕ ((Int32 × Int32) ⊕ (Int32)) → Prop} (x2 : Int32) (x3 : Int32) (x4 : Int32) (x5 : Int32) (x6 : Int32) (h : Hp) (hR : ∀ v : Int32, K (.inr (.inr v)) → post0 (some (.int v)) h) (hL7 : ∀ (x3 : Int32) (x4 : Int32), K (.inr (.inl (x3, x4))) → G ΛC x 7 [(0, .ref 0), (2, .int x2), (3, .int x3), (4, .int x4)] [] h) (hL32 : ∀ (x5 : Int32) (x6 : Int32), K (.inl (x5, x6)) → G ΛC x 32 [(0, .ref 0), (2, .int x2), (3, .int x3), (4, .int x4), (5, .int x5), (6, .int x6)] [] h) (T : Tt (f11_stepsOfKin_32_s x2 x3 x4 x5 x6 h) K) : G ΛC x 32 [(0, .ref 0), (2, .int x2), (3, .int x3), (4, .int x4), (5, .int x5), (6, .int x6)] [] h := by
  refine g_iload (q := 5) C dX11_stepsOfKin_32 rfl ?_
  refine g_aload_n (q := 0) C dX11_stepsOfKin_34 rfl rfl ?_
  refine g_getF (k := 2) (q := 6) C dX11_stepsOfKin_35 (hpC rfl rfl) rfl fl_X11_30 rfl rfl ?_
  refine g_getI (k := 1) C dX11_stepsOfKin_38 (hpC rfl rfl) rfl fl_X11_263 rfl ?_
  refine g_icmp_ge (tgt := 78) C dX11_stepsOfKin_41 (by decide) (fun c4 => ?_) (fun c4 => ?_)
  · have T := tt_t T c4
    refine g_sub [0, 1, 3, 4] rfl ?_
    exact k_f11_stepsOfKin_78 C x2 x4 x5 h hR hL7 (tt_map T)
  · have T := tt_f T c4
    refine g_iload_n (q := 2) C dX11_stepsOfKin_44 rfl rfl ?_
    refine g_iload (q := 5) C dX11_stepsOfKin_45 rfl ?_
    refine g_ishr C dX11_stepsOfKin_47 ?_
    refine g_iconst (v := 1) C dX11_stepsOfKin_48 (by decide) ?_
    refine g_iand C dX11_stepsOfKin_49 ?_
    refine g_iconst (v := 1) C dX11_stepsOfKin_50 (by decide) ?_
    refine g_icmp_ne (tgt := 72) C dX11_stepsOfKin_51 (by decide) (fun c5 => ?_) (fun c5 => ?_)
    · have T := tt_f T c5
      exact k_f11_stepsOfKin_72 C x2 x3 x4 x5 x6 h hR hL7 hL32 T
    · have T := tt_t T c5
      refine g_iload (q := 4) C dX11_stepsOfKin_54 rfl ?_
      refine g_aload_n (q := 0) C dX11_stepsOfKin_56 rfl rfl ?_
      refine g_getF (k := 2) (q := 6) C dX11_stepsOfKin_57 (hpC rfl rfl) rfl fl_X11_30 rfl rfl ?_
      refine g_getF (k := 0) (q := 7) C dX11_stepsOfKin_60 (hpC rfl rfl) rfl fl_X11_140 rfl rfl ?_
      refine g_iload (q := 5) C dX11_stepsOfKin_63 rfl ?_
      obtain ⟨g6, T⟩ := tt_gd T
      refine g_aald (q := 8 + 2 * ix x6) C dX11_stepsOfKin_65 (hpC rfl rfl) rfl (inb_of rfl g6) rfl ?_
      refine g_getI (k := 4) C dX11_stepsOfKin_66 (hpC (kboxC (a := 7) rfl g6) rfl) (kboxC (a := 7) rfl g6) fl_X11_379 rfl ?_
      refine g_ior C dX11_stepsOfKin_69 ?_
      obtain ⟨v7, ev7, T⟩ := tt_lt T
      refine g_nameI ev7 ?_
      refine g_istore (L' := [(5, .int v7), (0, .ref 0), (2, .int x2), (3, .int x3), (4, .int x4), (6, .int x6)]) C dX11_stepsOfKin_70 (by decide) rfl ?_
      refine g_sub [1, 2, 3, 4, 0, 5] rfl ?_
      exact k_f11_stepsOfKin_72 C x2 x3 x4 v7 x6 h hR hL7 hL32 T

noncomputable def f11_stepsOfKin_32 (x2 : Int32) (x3 : Int32) (x4 : Int32) (x5 : Int32) (x6 : Int32) (h : Hp) : Option ((Int32 × Int32) ⊕ (Int32)) := lp (fun z : Int32 × Int32 => f11_stepsOfKin_32_s x2 x3 x4 z.1 z.2 h) (x5, x6)
theorem k_f11_stepsOfKin_32 {x : Mx} {l : Launch} {post0 : Option Value → Hp → Prop} (C : Cx ΛC x l RX11 cX11_stepsOfKin rm_f11_stepsOfKin (some .int) 7 post0) {K : (Int32 × Int32) ⊕ (Int32) → Prop} (x2 : Int32) (x3 : Int32) (x4 : Int32) (x5 : Int32) (x6 : Int32) (h : Hp) (hR : ∀ v : Int32, K (.inr v) → post0 (some (.int v)) h) (hL7 : ∀ (x3 : Int32) (x4 : Int32), K (.inl (x3, x4)) → G ΛC x 7 [(0, .ref 0), (2, .int x2), (3, .int x3), (4, .int x4)] [] h) (T : Tt (f11_stepsOfKin_32 x2 x3 x4 x5 x6 h) K) : G ΛC x 32 [(0, .ref 0), (2, .int x2), (3, .int x3), (4, .int x4), (5, .int x5), (6, .int x6)] [] h :=
  lp_ind (f := fun z : Int32 × Int32 => f11_stepsOfKin_32_s x2 x3 x4 z.1 z.2 h) (P := fun z : Int32 × Int32 => G ΛC x 32 [(0, .ref 0), (2, .int x2), (3, .int x3), (4, .int x4), (5, .int z.1), (6, .int z.2)] [] h) (K := K) (fun z T => k_f11_stepsOfKin_32_s C (K := KS (fun z : Int32 × Int32 => G ΛC x 32 [(0, .ref 0), (2, .int x2), (3, .int x3), (4, .int x4), (5, .int z.1), (6, .int z.2)] [] h) K) x2 x3 x4 z.1 z.2 h hR hL7 (fun _ _ q => q) T) (x5, x6) T
noncomputable def f11_stepsOfKin_7_s (x2 : Int32) (x3 : Int32) (x4 : Int32) (h : Hp) : Option ((Int32 × Int32) ⊕ (Int32)) :=
  if 6 ≤ x4 then (some (.inr (-2))) else (if (x3 >>> (x2 &&& 31)) &&& 1 = 1 then (some (.inr x4)) else (f11_stepsOfKin_32 x2 x3 x4 x3 0 h))
set_option maxRecDepth 100000 in
set_option maxHeartbeats 4000000 in
theorem k_f11_stepsOfKin_7_s {x : Mx} {l : Launch} {post0 : Option Value → Hp → Prop} (C : Cx ΛC x l RX11 cX11_stepsOfKin rm_f11_stepsOfKin (some .int) 7 post0) {K : (Int32 × Int32) ⊕ (Int32) → Prop} (x2 : Int32) (x3 : Int32) (x4 : Int32) (h : Hp) (hR : ∀ v : Int32, K (.inr v) → post0 (some (.int v)) h) (hL7 : ∀ (x3 : Int32) (x4 : Int32), K (.inl (x3, x4)) → G ΛC x 7 [(0, .ref 0), (2, .int x2), (3, .int x3), (4, .int x4)] [] h) (T : Tt (f11_stepsOfKin_7_s x2 x3 x4 h) K) : G ΛC x 7 [(0, .ref 0), (2, .int x2), (3, .int x3), (4, .int x4)] [] h := by
  refine g_iload (q := 3) C dX11_stepsOfKin_7 rfl ?_
  refine g_bipush (v := 6) C dX11_stepsOfKin_9 (by decide) ?_
  refine g_icmp_ge (tgt := 87) C dX11_stepsOfKin_11 (by decide) (fun c2 => ?_) (fun c2 => ?_)
  · have T := tt_t T c2
    refine g_bipush (v := (-2)) C dX11_stepsOfKin_87 (by decide) ?_
    exact g_iret C dX11_stepsOfKin_89 (hR _ (tt_some T))
  · have T := tt_f T c2
    refine g_iload_n (q := 2) C dX11_stepsOfKin_14 rfl rfl ?_
    refine g_iload_n (q := 1) C dX11_stepsOfKin_15 rfl rfl ?_
    refine g_ishr C dX11_stepsOfKin_16 ?_
    refine g_iconst (v := 1) C dX11_stepsOfKin_17 (by decide) ?_
    refine g_iand C dX11_stepsOfKin_18 ?_
    refine g_iconst (v := 1) C dX11_stepsOfKin_19 (by decide) ?_
    refine g_icmp_ne (tgt := 26) C dX11_stepsOfKin_20 (by decide) (fun c3 => ?_) (fun c3 => ?_)
    · have T := tt_f T c3
      refine g_iload_n (q := 2) C dX11_stepsOfKin_26 rfl rfl ?_
      refine g_istore (L' := [(5, .int x3), (0, .ref 0), (2, .int x2), (3, .int x3), (4, .int x4)]) C dX11_stepsOfKin_27 (by decide) rfl ?_
      refine g_iconst (v := 0) C dX11_stepsOfKin_29 (by decide) ?_
      refine g_istore (L' := [(6, .int 0), (5, .int x3), (0, .ref 0), (2, .int x2), (3, .int x3), (4, .int x4)]) C dX11_stepsOfKin_30 (by decide) rfl ?_
      refine g_sub [2, 3, 4, 5, 1, 0] rfl ?_
      exact k_f11_stepsOfKin_32 C x2 x3 x4 x3 0 h hR hL7 T
    · have T := tt_t T c3
      refine g_iload (q := 3) C dX11_stepsOfKin_23 rfl ?_
      exact g_iret C dX11_stepsOfKin_25 (hR _ (tt_some T))

noncomputable def f11_stepsOfKin_7 (x2 : Int32) (x3 : Int32) (x4 : Int32) (h : Hp) : Option (Int32) := lp (fun z : Int32 × Int32 => f11_stepsOfKin_7_s x2 z.1 z.2 h) (x3, x4)
theorem k_f11_stepsOfKin_7 {x : Mx} {l : Launch} {post0 : Option Value → Hp → Prop} (C : Cx ΛC x l RX11 cX11_stepsOfKin rm_f11_stepsOfKin (some .int) 7 post0) {K : Int32 → Prop} (x2 : Int32) (x3 : Int32) (x4 : Int32) (h : Hp) (hR : ∀ v : Int32, K v → post0 (some (.int v)) h) (T : Tt (f11_stepsOfKin_7 x2 x3 x4 h) K) : G ΛC x 7 [(0, .ref 0), (2, .int x2), (3, .int x3), (4, .int x4)] [] h :=
  lp_ind (f := fun z : Int32 × Int32 => f11_stepsOfKin_7_s x2 z.1 z.2 h) (P := fun z : Int32 × Int32 => G ΛC x 7 [(0, .ref 0), (2, .int x2), (3, .int z.1), (4, .int z.2)] [] h) (K := K) (fun z T => k_f11_stepsOfKin_7_s C (K := KS (fun z : Int32 × Int32 => G ΛC x 7 [(0, .ref 0), (2, .int x2), (3, .int z.1), (4, .int z.2)] [] h) K) x2 z.1 z.2 h hR (fun _ _ q => q) T) (x3, x4) T
noncomputable def f11_stepsOfKin (x1 : Int32) (x2 : Int32) (h : Hp) : Option (Int32) :=
  lt (1 <<< (x1 &&& 31)) fun v1 => f11_stepsOfKin_7 x2 v1 0 h
set_option maxRecDepth 100000 in
set_option maxHeartbeats 4000000 in
theorem k_f11_stepsOfKin {x : Mx} {l : Launch} {post0 : Option Value → Hp → Prop} (C : Cx ΛC x l RX11 cX11_stepsOfKin rm_f11_stepsOfKin (some .int) 7 post0) {K : Int32 → Prop} (x1 : Int32) (x2 : Int32) (h : Hp) (hR : ∀ v : Int32, K v → post0 (some (.int v)) h) (T : Tt (f11_stepsOfKin x1 x2 h) K) : G ΛC x 0 [(0, .ref 0), (1, .int x1), (2, .int x2)] [] h := by
  refine g_iconst (v := 1) C dX11_stepsOfKin_0 (by decide) ?_
  refine g_iload_n (q := 1) C dX11_stepsOfKin_1 rfl rfl ?_
  refine g_ishl C dX11_stepsOfKin_2 ?_
  obtain ⟨v1, ev1, T⟩ := tt_lt T
  refine g_nameI ev1 ?_
  refine g_istore_n (L' := [(3, .int v1), (0, .ref 0), (1, .int x1), (2, .int x2)]) C dX11_stepsOfKin_3 rfl (by decide) rfl ?_
  refine g_iconst (v := 0) C dX11_stepsOfKin_4 (by decide) ?_
  refine g_istore (L' := [(4, .int 0), (3, .int v1), (0, .ref 0), (1, .int x1), (2, .int x2)]) C dX11_stepsOfKin_5 (by decide) rfl ?_
  refine g_sub [2, 4, 1, 0] rfl ?_
  exact k_f11_stepsOfKin_7 C x2 v1 0 h hR T

theorem ok_f11_stepsOfKin {l : Launch} {K : Int32 → Prop} (x1 : Int32) (x2 : Int32) (h : Hp) (T : Tt (f11_stepsOfKin x1 x2 h) K) : Ok ΛC l yX11_stepsOfKin cX11_stepsOfKin 7 (some .int) rm_f11_stepsOfKin [.ref 0, .int x1, .int x2] h (PIs K h) :=
  Ok.of RX11 rfl (by decide) ⟨rfl, rfl⟩ (Nat.le_of_ble_eq_true rfl) (fun x C => k_f11_stepsOfKin C x1 x2 h (fun v q => ⟨v, rfl, rfl, q⟩) T)

abbrev rm_f11_far : Room := { frames := 1, cells := 0, slots := 0, locals := 26 }
noncomputable def f11_far_25 (h : Hp) : Option (Int32) :=
  some (-1)
set_option maxRecDepth 100000 in
set_option maxHeartbeats 4000000 in
theorem k_f11_far_25 {x : Mx} {l : Launch} {post0 : Option Value → Hp → Prop} (C : Cx ΛC x l RX11 cX11_far rm_f11_far (some .int) 3 post0) {K : Int32 → Prop} (h : Hp) (hR : ∀ v : Int32, K v → post0 (some (.int v)) h) (T : Tt (f11_far_25 h) K) : G ΛC x 25 [] [] h := by
  refine g_iconst (v := (-1)) C dX11_far_25 (by decide) ?_
  exact g_iret C dX11_far_26 (hR _ (tt_some T))

noncomputable def f11_far (x1 : Int32) (x2 : Int32) (h : Hp) : Option (Int32) :=
  (f11_isBox x1 h).bind fun r1 => if r1 = 0 then (f11_far_25 h) else ((f11_isBox x2 h).bind fun r3 => if r3 = 0 then (f11_far_25 h) else ((f11_stepsOfKin x1 x2 h).bind fun r5 => some r5))
set_option maxRecDepth 100000 in
set_option maxHeartbeats 4000000 in
theorem k_f11_far {x : Mx} {l : Launch} {post0 : Option Value → Hp → Prop} (C : Cx ΛC x l RX11 cX11_far rm_f11_far (some .int) 3 post0) {K : Int32 → Prop} (x1 : Int32) (x2 : Int32) (h : Hp) (hR : ∀ v : Int32, K v → post0 (some (.int v)) h) (T : Tt (f11_far x1 x2 h) K) : G ΛC x 0 [(0, .ref 0), (1, .int x1), (2, .int x2)] [] h := by
  refine g_aload_n (q := 0) C dX11_far_0 rfl rfl ?_
  refine g_iload_n (q := 1) C dX11_far_1 rfl rfl ?_
  refine g_callV (p := 0) (As := [.int x1]) C dX11_far_2 ml_X11_129 yv_f11_isBox ⟨rfl, rfl⟩ ⟨Nat.le_of_ble_eq_true rfl, Nat.le_of_ble_eq_true rfl⟩ (hpC rfl rfl) rfl rfl rfl (Nat.le_of_ble_eq_true rfl) (ok_f11_isBox x1 h (tt_bind T)) ?_
  rintro _ _ ⟨r1, rfl, rfl, T⟩
  show G ΛC x 5 [(0, .ref 0), (1, .int x1), (2, .int x2)] [.int r1] h
  refine g_if_eq (tgt := 25) C dX11_far_5 (by decide) (fun c2 => ?_) (fun c2 => ?_)
  · have T := tt_t T c2
    refine g_sub [] rfl ?_
    exact k_f11_far_25 C h hR T
  · have T := tt_f T c2
    refine g_aload_n (q := 0) C dX11_far_8 rfl rfl ?_
    refine g_iload_n (q := 2) C dX11_far_9 rfl rfl ?_
    refine g_callV (p := 0) (As := [.int x2]) C dX11_far_10 ml_X11_129 yv_f11_isBox ⟨rfl, rfl⟩ ⟨Nat.le_of_ble_eq_true rfl, Nat.le_of_ble_eq_true rfl⟩ (hpC rfl rfl) rfl rfl rfl (Nat.le_of_ble_eq_true rfl) (ok_f11_isBox x2 h (tt_bind T)) ?_
    rintro _ _ ⟨r3, rfl, rfl, T⟩
    show G ΛC x 13 [(0, .ref 0), (1, .int x1), (2, .int x2)] [.int r3] h
    refine g_if_eq (tgt := 25) C dX11_far_13 (by decide) (fun c4 => ?_) (fun c4 => ?_)
    · have T := tt_t T c4
      refine g_sub [] rfl ?_
      exact k_f11_far_25 C h hR T
    · have T := tt_f T c4
      refine g_aload_n (q := 0) C dX11_far_16 rfl rfl ?_
      refine g_iload_n (q := 1) C dX11_far_17 rfl rfl ?_
      refine g_iload_n (q := 2) C dX11_far_18 rfl rfl ?_
      refine g_callV (p := 0) (As := [.int x1, .int x2]) C dX11_far_19 ml_X11_272 yv_f11_stepsOfKin ⟨rfl, rfl⟩ ⟨Nat.le_of_ble_eq_true rfl, Nat.le_of_ble_eq_true rfl⟩ (hpC rfl rfl) rfl rfl rfl (Nat.le_of_ble_eq_true rfl) (ok_f11_stepsOfKin x1 x2 h (tt_bind T)) ?_
      rintro _ _ ⟨r5, rfl, rfl, T⟩
      show G ΛC x 22 [(0, .ref 0), (1, .int x1), (2, .int x2)] [.int r5] h
      refine g_goto (tgt := 26) C dX11_far_22 (by decide) ?_
      exact g_iret C dX11_far_26 (hR _ (tt_some T))

theorem ok_f11_far {l : Launch} {K : Int32 → Prop} (x1 : Int32) (x2 : Int32) (h : Hp) (T : Tt (f11_far x1 x2 h) K) : Ok ΛC l yX11_far cX11_far 3 (some .int) rm_f11_far [.ref 0, .int x1, .int x2] h (PIs K h) :=
  Ok.of RX11 rfl (by decide) ⟨rfl, rfl⟩ (Nat.le_of_ble_eq_true rfl) (fun x C => k_f11_far C x1 x2 h (fun v q => ⟨v, rfl, rfl, q⟩) T)

abbrev rm_f11_forged : Room := { frames := 4, cells := 0, slots := 0, locals := 88 }
noncomputable def f11_forged_87 (x1 : Int32) (x2 : Int32) (h : Hp) : Option ((Int32 × Int32) ⊕ (Int32 × Hp)) :=
  some (.inl (x1, x2 + 1))
set_option maxRecDepth 100000 in
set_option maxHeartbeats 4000000 in
theorem k_f11_forged_87 {x : Mx} {l : Launch} {post0 : Option Value → Hp → Prop} (C : Cx ΛC x l RX11 cX11_forged rm_f11_forged (some .int) 4 post0) {K : (Int32 × Int32) ⊕ (Int32 × Hp) → Prop} (x1 : Int32) (x2 : Int32) (h : Hp) (hR : ∀ (v : Int32) (h : Hp), K (.inr (v, h)) → post0 (some (.int v)) h) (hL15 : ∀ (x1 : Int32) (x2 : Int32), K (.inl (x1, x2)) → G ΛC x 15 [(0, .ref 0), (1, .int x1), (2, .int x2)] [] h) (T : Tt (f11_forged_87 x1 x2 h) K) : G ΛC x 87 [(0, .ref 0), (1, .int x1), (2, .int x2)] [] h := by
  refine g_iinc (v := x2 + 1) (q := 2) (L' := [(2, .int (x2 + 1)), (0, .ref 0), (1, .int x1)]) C dX11_forged_87 rfl (by first | rfl | exact congrArg _ (by decide)) (by decide) rfl ?_
  refine g_goto (tgt := 15) C dX11_forged_90 (by decide) ?_
  refine g_sub [1, 2, 0] rfl ?_
  exact hL15 _ _ (tt_some T)

noncomputable def f11_forged_81 (x1 : Int32) (x2 : Int32) (x3 : Int32) (h : Hp) : Option ((Int32 × Int32) ⊕ ((Int32 × Int32) ⊕ (Int32 × Hp))) :=
  some (.inl (x1, x3 + 1))
set_option maxRecDepth 100000 in
set_option maxHeartbeats 4000000 in
theorem k_f11_forged_81 {x : Mx} {l : Launch} {post0 : Option Value → Hp → Prop} (C : Cx ΛC x l RX11 cX11_forged rm_f11_forged (some .int) 4 post0) {K : (Int32 × Int32) ⊕ ((Int32 × Int32) ⊕ (Int32 × Hp)) → Prop} (x1 : Int32) (x2 : Int32) (x3 : Int32) (h : Hp) (hR : ∀ (v : Int32) (h : Hp), K (.inr (.inr (v, h))) → post0 (some (.int v)) h) (hL15 : ∀ (x1 : Int32) (x2 : Int32), K (.inr (.inl (x1, x2))) → G ΛC x 15 [(0, .ref 0), (1, .int x1), (2, .int x2)] [] h) (hL28 : ∀ (x1 : Int32) (x3 : Int32), K (.inl (x1, x3)) → G ΛC x 28 [(0, .ref 0), (1, .int x1), (2, .int x2), (3, .int x3)] [] h) (T : Tt (f11_forged_81 x1 x2 x3 h) K) : G ΛC x 81 [(0, .ref 0), (1, .int x1), (2, .int x2), (3, .int x3)] [] h := by
  refine g_iinc (v := x3 + 1) (q := 3) (L' := [(3, .int (x3 + 1)), (0, .ref 0), (1, .int x1), (2, .int x2)]) C dX11_forged_81 rfl (by first | rfl | exact congrArg _ (by decide)) (by decide) rfl ?_
  refine g_goto (tgt := 28) C dX11_forged_84 (by decide) ?_
  refine g_sub [1, 2, 3, 0] rfl ?_
  exact hL28 _ _ (tt_some T)

noncomputable def f11_forged_28_s (x1 : Int32) (x2 : Int32) (x3 : Int32) (h : Hp) : Option ((Int32 × Int32) ⊕ ((Int32 × Int32) ⊕ (Int32 × Hp))) :=
  if h.1 6 1 ≤ x3 then ((f11_forged_87 x1 x2 h).map (fun z => .inr (z))) else (if x2 = x3 then (f11_forged_81 x1 x2 x3 h) else (gd (inb x2 6) <| (f0_isKinOf (8 + 2 * ix x2) x3 h).bind fun r6 => if r6 = 0 then ((f2_alikeBy x2 x3 0 h).bind fun r8 => if r8 < 6 then (f11_forged_81 x1 x2 x3 h) else (lt (x1 ||| (1 <<< (x2 &&& 31))) fun v10 => f11_forged_81 v10 x2 x3 h)) else (f11_forged_81 x1 x2 x3 h)))
set_option maxRecDepth 100000 in
set_option maxHeartbeats 4000000 in
theorem k_f11_forged_28_s {x : Mx} {l : Launch} {post0 : Option Value → Hp → Prop} (C : Cx ΛC x l RX11 cX11_forged rm_f11_forged (some .int) 4 post0) {K : (Int32 × Int32) ⊕ ((Int32 × Int32) ⊕ (Int32 × Hp)) → Prop} (x1 : Int32) (x2 : Int32) (x3 : Int32) (h : Hp) (hR : ∀ (v : Int32) (h : Hp), K (.inr (.inr (v, h))) → post0 (some (.int v)) h) (hL15 : ∀ (x1 : Int32) (x2 : Int32), K (.inr (.inl (x1, x2))) → G ΛC x 15 [(0, .ref 0), (1, .int x1), (2, .int x2)] [] h) (hL28 : ∀ (x1 : Int32) (x3 : Int32), K (.inl (x1, x3)) → G ΛC x 28 [(0, .ref 0), (1, .int x1), (2, .int x2), (3, .int x3)] [] h) (T : Tt (f11_forged_28_s x1 x2 x3 h) K) : G ΛC x 28 [(0, .ref 0), (1, .int x1), (2, .int x2), (3, .int x3)] [] h := by
  refine g_iload_n (q := 3) C dX11_forged_28 rfl rfl ?_
  refine g_aload_n (q := 0) C dX11_forged_29 rfl rfl ?_
  refine g_getF (k := 2) (q := 6) C dX11_forged_30 (hpC rfl rfl) rfl fl_X11_30 rfl rfl ?_
  refine g_getI (k := 1) C dX11_forged_33 (hpC rfl rfl) rfl fl_X11_263 rfl ?_
  refine g_icmp_ge (tgt := 87) C dX11_forged_36 (by decide) (fun c3 => ?_) (fun c3 => ?_)
  · have T := tt_t T c3
    refine g_sub [0, 1, 2] rfl ?_
    exact k_f11_forged_87 C x1 x2 h hR hL15 (tt_map T)
  · have T := tt_f T c3
    refine g_iload_n (q := 2) C dX11_forged_39 rfl rfl ?_
    refine g_iload_n (q := 3) C dX11_forged_40 rfl rfl ?_
    refine g_icmp_eq (tgt := 81) C dX11_forged_41 (by decide) (fun c4 => ?_) (fun c4 => ?_)
    · have T := tt_t T c4
      exact k_f11_forged_81 C x1 x2 x3 h hR hL15 hL28 T
    · have T := tt_f T c4
      refine g_aload_n (q := 0) C dX11_forged_44 rfl rfl ?_
      refine g_getF (k := 2) (q := 6) C dX11_forged_45 (hpC rfl rfl) rfl fl_X11_30 rfl rfl ?_
      refine g_getF (k := 0) (q := 7) C dX11_forged_48 (hpC rfl rfl) rfl fl_X11_140 rfl rfl ?_
      refine g_iload_n (q := 2) C dX11_forged_51 rfl rfl ?_
      obtain ⟨g5, T⟩ := tt_gd T
      refine g_aald (q := 8 + 2 * ix x2) C dX11_forged_52 (hpC rfl rfl) rfl (inb_of rfl g5) rfl ?_
      refine g_iload_n (q := 3) C dX11_forged_53 rfl rfl ?_
      refine g_callV (p := (8 + 2 * ix x2)) (As := [.int x3]) C dX11_forged_54 ml_X11_189 yv_f0_isKinOf ⟨rfl, rfl⟩ ⟨Nat.le_of_ble_eq_true rfl, Nat.le_of_ble_eq_true rfl⟩ (hpC (kboxC (a := 7) rfl g5) rfl) (kboxC (a := 7) rfl g5) rfl rfl (Nat.le_of_ble_eq_true rfl) (ok_f0_isKinOf (8 + 2 * ix x2) x3 (kboxC (a := 7) rfl g5) h (tt_bind T)) ?_
      rintro _ _ ⟨r6, rfl, rfl, T⟩
      show G ΛC x 57 [(0, .ref 0), (1, .int x1), (2, .int x2), (3, .int x3)] [.int r6] h
      refine g_if_ne (tgt := 81) C dX11_forged_57 (by decide) (fun c7 => ?_) (fun c7 => ?_)
      · have T := tt_f T c7
        exact k_f11_forged_81 C x1 x2 x3 h hR hL15 hL28 T
      · have T := tt_t T c7
        refine g_aload_n (q := 0) C dX11_forged_60 rfl rfl ?_
        refine g_getF (k := 6) (q := 45) C dX11_forged_61 (hpC rfl rfl) rfl fl_X11_54 rfl rfl ?_
        refine g_iload_n (q := 2) C dX11_forged_64 rfl rfl ?_
        refine g_iload_n (q := 3) C dX11_forged_65 rfl rfl ?_
        refine g_iconst (v := 0) C dX11_forged_66 (by decide) ?_
        refine g_callV (p := 45) (As := [.int x2, .int x3, .int 0]) C dX11_forged_67 ml_X11_235 yv_f2_alikeBy ⟨rfl, rfl⟩ ⟨Nat.le_of_ble_eq_true rfl, Nat.le_of_ble_eq_true rfl⟩ (hpC rfl rfl) rfl rfl rfl (Nat.le_of_ble_eq_true rfl) (ok_f2_alikeBy x2 x3 0 h (tt_bind T)) ?_
        rintro _ _ ⟨r8, rfl, rfl, T⟩
        show G ΛC x 70 [(0, .ref 0), (1, .int x1), (2, .int x2), (3, .int x3)] [.int r8] h
        refine g_bipush (v := 6) C dX11_forged_70 (by decide) ?_
        refine g_icmp_lt (tgt := 81) C dX11_forged_72 (by decide) (fun c9 => ?_) (fun c9 => ?_)
        · have T := tt_t T c9
          exact k_f11_forged_81 C x1 x2 x3 h hR hL15 hL28 T
        · have T := tt_f T c9
          refine g_iload_n (q := 1) C dX11_forged_75 rfl rfl ?_
          refine g_iconst (v := 1) C dX11_forged_76 (by decide) ?_
          refine g_iload_n (q := 2) C dX11_forged_77 rfl rfl ?_
          refine g_ishl C dX11_forged_78 ?_
          refine g_ior C dX11_forged_79 ?_
          obtain ⟨v10, ev10, T⟩ := tt_lt T
          refine g_nameI ev10 ?_
          refine g_istore_n (L' := [(1, .int v10), (0, .ref 0), (2, .int x2), (3, .int x3)]) C dX11_forged_80 rfl (by decide) rfl ?_
          refine g_sub [1, 0, 2, 3] rfl ?_
          exact k_f11_forged_81 C v10 x2 x3 h hR hL15 hL28 T

noncomputable def f11_forged_28 (x1 : Int32) (x2 : Int32) (x3 : Int32) (h : Hp) : Option ((Int32 × Int32) ⊕ (Int32 × Hp)) := lp (fun z : Int32 × Int32 => f11_forged_28_s z.1 x2 z.2 h) (x1, x3)
theorem k_f11_forged_28 {x : Mx} {l : Launch} {post0 : Option Value → Hp → Prop} (C : Cx ΛC x l RX11 cX11_forged rm_f11_forged (some .int) 4 post0) {K : (Int32 × Int32) ⊕ (Int32 × Hp) → Prop} (x1 : Int32) (x2 : Int32) (x3 : Int32) (h : Hp) (hR : ∀ (v : Int32) (h : Hp), K (.inr (v, h)) → post0 (some (.int v)) h) (hL15 : ∀ (x1 : Int32) (x2 : Int32), K (.inl (x1, x2)) → G ΛC x 15 [(0, .ref 0), (1, .int x1), (2, .int x2)] [] h) (T : Tt (f11_forged_28 x1 x2 x3 h) K) : G ΛC x 28 [(0, .ref 0), (1, .int x1), (2, .int x2), (3, .int x3)] [] h :=
  lp_ind (f := fun z : Int32 × Int32 => f11_forged_28_s z.1 x2 z.2 h) (P := fun z : Int32 × Int32 => G ΛC x 28 [(0, .ref 0), (1, .int z.1), (2, .int x2), (3, .int z.2)] [] h) (K := K) (fun z T => k_f11_forged_28_s C (K := KS (fun z : Int32 × Int32 => G ΛC x 28 [(0, .ref 0), (1, .int z.1), (2, .int x2), (3, .int z.2)] [] h) K) z.1 x2 z.2 h hR hL15 (fun _ _ q => q) T) (x1, x3) T
noncomputable def f11_forged_15_s (x1 : Int32) (x2 : Int32) (h : Hp) : Option ((Int32 × Int32) ⊕ (Int32 × Hp)) :=
  if h.1 6 1 ≤ x2 then (some (.inr (x1, h))) else (f11_forged_28 x1 x2 0 h)
set_option maxRecDepth 100000 in
set_option maxHeartbeats 4000000 in
theorem k_f11_forged_15_s {x : Mx} {l : Launch} {post0 : Option Value → Hp → Prop} (C : Cx ΛC x l RX11 cX11_forged rm_f11_forged (some .int) 4 post0) {K : (Int32 × Int32) ⊕ (Int32 × Hp) → Prop} (x1 : Int32) (x2 : Int32) (h : Hp) (hR : ∀ (v : Int32) (h : Hp), K (.inr (v, h)) → post0 (some (.int v)) h) (hL15 : ∀ (x1 : Int32) (x2 : Int32), K (.inl (x1, x2)) → G ΛC x 15 [(0, .ref 0), (1, .int x1), (2, .int x2)] [] h) (T : Tt (f11_forged_15_s x1 x2 h) K) : G ΛC x 15 [(0, .ref 0), (1, .int x1), (2, .int x2)] [] h := by
  refine g_iload_n (q := 2) C dX11_forged_15 rfl rfl ?_
  refine g_aload_n (q := 0) C dX11_forged_16 rfl rfl ?_
  refine g_getF (k := 2) (q := 6) C dX11_forged_17 (hpC rfl rfl) rfl fl_X11_30 rfl rfl ?_
  refine g_getI (k := 1) C dX11_forged_20 (hpC rfl rfl) rfl fl_X11_263 rfl ?_
  refine g_icmp_ge (tgt := 93) C dX11_forged_23 (by decide) (fun c2 => ?_) (fun c2 => ?_)
  · have T := tt_t T c2
    refine g_iload_n (q := 1) C dX11_forged_93 rfl rfl ?_
    exact g_iret C dX11_forged_94 (hR _ _ (tt_some T))
  · have T := tt_f T c2
    refine g_iconst (v := 0) C dX11_forged_26 (by decide) ?_
    refine g_istore_n (L' := [(3, .int 0), (0, .ref 0), (1, .int x1), (2, .int x2)]) C dX11_forged_27 rfl (by decide) rfl ?_
    refine g_sub [1, 2, 3, 0] rfl ?_
    exact k_f11_forged_28 C x1 x2 0 h hR hL15 T

noncomputable def f11_forged_15 (x1 : Int32) (x2 : Int32) (h : Hp) : Option (Int32 × Hp) := lp (fun z : Int32 × Int32 => f11_forged_15_s z.1 z.2 h) (x1, x2)
theorem k_f11_forged_15 {x : Mx} {l : Launch} {post0 : Option Value → Hp → Prop} (C : Cx ΛC x l RX11 cX11_forged rm_f11_forged (some .int) 4 post0) {K : Int32 × Hp → Prop} (x1 : Int32) (x2 : Int32) (h : Hp) (hR : ∀ (v : Int32) (h : Hp), K (v, h) → post0 (some (.int v)) h) (T : Tt (f11_forged_15 x1 x2 h) K) : G ΛC x 15 [(0, .ref 0), (1, .int x1), (2, .int x2)] [] h :=
  lp_ind (f := fun z : Int32 × Int32 => f11_forged_15_s z.1 z.2 h) (P := fun z : Int32 × Int32 => G ΛC x 15 [(0, .ref 0), (1, .int z.1), (2, .int z.2)] [] h) (K := K) (fun z T => k_f11_forged_15_s C (K := KS (fun z : Int32 × Int32 => G ΛC x 15 [(0, .ref 0), (1, .int z.1), (2, .int z.2)] [] h) K) z.1 z.2 h hR (fun _ _ q => q) T) (x1, x2) T
noncomputable def f11_forged (h : Hp) : Option (Int32 × Hp) :=
  (f2_listen 6 h).bind fun h1 => f11_forged_15 0 0 h1
set_option maxRecDepth 100000 in
set_option maxHeartbeats 4000000 in
theorem k_f11_forged {x : Mx} {l : Launch} {post0 : Option Value → Hp → Prop} (C : Cx ΛC x l RX11 cX11_forged rm_f11_forged (some .int) 4 post0) {K : Int32 × Hp → Prop} (h : Hp) (hR : ∀ (v : Int32) (h : Hp), K (v, h) → post0 (some (.int v)) h) (T : Tt (f11_forged h) K) : G ΛC x 0 [(0, .ref 0)] [] h := by
  refine g_aload_n (q := 0) C dX11_forged_0 rfl rfl ?_
  refine g_getF (k := 6) (q := 45) C dX11_forged_1 (hpC rfl rfl) rfl fl_X11_54 rfl rfl ?_
  refine g_aload_n (q := 0) C dX11_forged_4 rfl rfl ?_
  refine g_getF (k := 2) (q := 6) C dX11_forged_5 (hpC rfl rfl) rfl fl_X11_30 rfl rfl ?_
  refine g_callV (p := 45) (As := [.ref 6]) C dX11_forged_8 ml_X11_231 yv_f2_listen ⟨rfl, rfl⟩ ⟨Nat.le_of_ble_eq_true rfl, Nat.le_of_ble_eq_true rfl⟩ (hpC rfl rfl) rfl rfl rfl (Nat.le_of_ble_eq_true rfl) (ok_f2_listen 6 rfl h (tt_bind T)) ?_
  rintro _ h1 ⟨rfl, T⟩
  show G ΛC x 11 [(0, .ref 0)] [] h1
  refine g_iconst (v := 0) C dX11_forged_11 (by decide) ?_
  refine g_istore_n (L' := [(1, .int 0), (0, .ref 0)]) C dX11_forged_12 rfl (by decide) rfl ?_
  refine g_iconst (v := 0) C dX11_forged_13 (by decide) ?_
  refine g_istore_n (L' := [(2, .int 0), (1, .int 0), (0, .ref 0)]) C dX11_forged_14 rfl (by decide) rfl ?_
  refine g_sub [2, 1, 0] rfl ?_
  exact k_f11_forged_15 C 0 0 h1 hR T

theorem ok_f11_forged {l : Launch} {K : Int32 × Hp → Prop} (h : Hp) (T : Tt (f11_forged h) K) : Ok ΛC l yX11_forged cX11_forged 4 (some .int) rm_f11_forged [.ref 0] h (PIw K) :=
  Ok.of RX11 rfl (by decide) ⟨rfl, rfl⟩ (Nat.le_of_ble_eq_true rfl) (fun x C => k_f11_forged C h (fun v _ q => ⟨v, rfl, q⟩) T)

abbrev rm_f11_lasts : Room := { frames := 5, cells := 0, slots := 0, locals := 124 }
noncomputable def f11_lasts_79 (x2 : Int32) (h : Hp) : Option (Int32 × Hp) :=
  if h.1 51 5 = 0 then (some (x2, h)) else (some ((-2), h))
set_option maxRecDepth 100000 in
set_option maxHeartbeats 4000000 in
theorem k_f11_lasts_79 {x : Mx} {l : Launch} {post0 : Option Value → Hp → Prop} (C : Cx ΛC x l RX11 cX11_lasts rm_f11_lasts (some .int) 3 post0) {K : Int32 × Hp → Prop} (x2 : Int32) (h : Hp) (hR : ∀ (v : Int32) (h : Hp), K (v, h) → post0 (some (.int v)) h) (T : Tt (f11_lasts_79 x2 h) K) : G ΛC x 79 [(0, .ref 0), (2, .int x2)] [] h := by
  refine g_aload_n (q := 0) C dX11_lasts_79 rfl rfl ?_
  refine g_getF (k := 8) (q := 51) C dX11_lasts_80 (hpC rfl rfl) rfl fl_X11_68 rfl rfl ?_
  refine g_getI (k := 5) C dX11_lasts_83 (hpC rfl rfl) rfl fl_X11_144 rfl ?_
  refine g_if_ne (tgt := 93) C dX11_lasts_86 (by decide) (fun c6 => ?_) (fun c6 => ?_)
  · have T := tt_f T c6
    refine g_bipush (v := (-2)) C dX11_lasts_93 (by decide) ?_
    exact g_iret C dX11_lasts_95 (hR _ _ (tt_some T))
  · have T := tt_t T c6
    refine g_iload_n (q := 1) C dX11_lasts_89 rfl rfl ?_
    refine g_goto (tgt := 95) C dX11_lasts_90 (by decide) ?_
    exact g_iret C dX11_lasts_95 (hR _ _ (tt_some T))

noncomputable def f11_lasts_28_s (x2 : Int32) (h : Hp) : Option ((Int32 × Hp) ⊕ (Int32 × Hp)) :=
  if 999 ≤ x2 then ((f11_lasts_79 x2 h).map (fun z => .inr (z))) else ((f0_isLetGo 51 h).bind fun r7 => if r7 = 0 then ((f11_lasts_79 x2 h).map (fun z => .inr (z))) else ((h.2.2 0 11).bind fun p9 => gd (decide (kdC p9 = 10)) <| (f11_isDampAsItGoes h).bind fun r11 => (f0_goOneYear 51 (p9 + 14) ((h.1 6 2) + x2) r11 0 h).bind fun h12 => some (.inl (x2 + 1, h12))))
set_option maxRecDepth 100000 in
set_option maxHeartbeats 4000000 in
theorem k_f11_lasts_28_s {x : Mx} {l : Launch} {post0 : Option Value → Hp → Prop} (C : Cx ΛC x l RX11 cX11_lasts rm_f11_lasts (some .int) 3 post0) {K : (Int32 × Hp) ⊕ (Int32 × Hp) → Prop} (x2 : Int32) (h : Hp) (hR : ∀ (v : Int32) (h : Hp), K (.inr (v, h)) → post0 (some (.int v)) h) (hL28 : ∀ (x2 : Int32) (h : Hp), K (.inl (x2, h)) → G ΛC x 28 [(0, .ref 0), (2, .int x2)] [] h) (T : Tt (f11_lasts_28_s x2 h) K) : G ΛC x 28 [(0, .ref 0), (2, .int x2)] [] h := by
  refine g_iload_n (q := 1) C dX11_lasts_28 rfl rfl ?_
  refine g_sipush (v := 999) C dX11_lasts_29 (by decide) ?_
  refine g_icmp_ge (tgt := 79) C dX11_lasts_32 (by decide) (fun c5 => ?_) (fun c5 => ?_)
  · have T := tt_t T c5
    exact k_f11_lasts_79 C x2 h hR (tt_map T)
  · have T := tt_f T c5
    refine g_aload_n (q := 0) C dX11_lasts_35 rfl rfl ?_
    refine g_getF (k := 8) (q := 51) C dX11_lasts_36 (hpC rfl rfl) rfl fl_X11_68 rfl rfl ?_
    refine g_callV (p := 51) (As := []) C dX11_lasts_39 ml_X11_275 yv_f0_isLetGo ⟨rfl, rfl⟩ ⟨Nat.le_of_ble_eq_true rfl, Nat.le_of_ble_eq_true rfl⟩ (hpC rfl rfl) rfl rfl rfl (Nat.le_of_ble_eq_true rfl) (ok_f0_isLetGo 51 rfl h (tt_bind T)) ?_
    rintro _ _ ⟨r7, rfl, rfl, T⟩
    show G ΛC x 42 [(0, .ref 0), (2, .int x2)] [.int r7] h
    refine g_if_eq (tgt := 79) C dX11_lasts_42 (by decide) (fun c8 => ?_) (fun c8 => ?_)
    · have T := tt_t T c8
      exact k_f11_lasts_79 C x2 h hR (tt_map T)
    · have T := tt_f T c8
      refine g_aload_n (q := 0) C dX11_lasts_45 rfl rfl ?_
      refine g_getF (k := 8) (q := 51) C dX11_lasts_46 (hpC rfl rfl) rfl fl_X11_68 rfl rfl ?_
      refine g_aload_n (q := 0) C dX11_lasts_49 rfl rfl ?_
      obtain ⟨p9, ep9, T⟩ := tt_bind T
      obtain ⟨g10, T⟩ := tt_gd T
      have kp9 : kdC p9 = 10 := of_decide_eq_true g10
      refine g_getD (k := 11) (q := p9) C dX11_lasts_50 (hpC rfl rfl) rfl fl_X11_82 rfl ep9 ?_
      refine g_getF (k := 1) (q := p9 + 14) C dX11_lasts_53 (hpC kp9 rfl) kp9 fl_X11_194 rfl rfl ?_
      refine g_aload_n (q := 0) C dX11_lasts_56 rfl rfl ?_
      refine g_getF (k := 2) (q := 6) C dX11_lasts_57 (hpC rfl rfl) rfl fl_X11_30 rfl rfl ?_
      refine g_getI (k := 2) C dX11_lasts_60 (hpC rfl rfl) rfl fl_X11_198 rfl ?_
      refine g_iload_n (q := 1) C dX11_lasts_63 rfl rfl ?_
      refine g_iadd C dX11_lasts_64 ?_
      refine g_aload_n (q := 0) C dX11_lasts_65 rfl rfl ?_
      refine g_callV (p := 0) (As := []) C dX11_lasts_66 ml_X11_279 yv_f11_isDampAsItGoes ⟨rfl, rfl⟩ ⟨Nat.le_of_ble_eq_true rfl, Nat.le_of_ble_eq_true rfl⟩ (hpC rfl rfl) rfl rfl rfl (Nat.le_of_ble_eq_true rfl) (ok_f11_isDampAsItGoes h (tt_bind T)) ?_
      rintro _ _ ⟨r11, rfl, rfl, T⟩
      show G ΛC x 69 [(0, .ref 0), (2, .int x2)] [.int r11, .int ((h.1 6 2) + x2), .ref (p9 + 14), .ref 51] h
      refine g_iconst (v := 0) C dX11_lasts_69 (by decide) ?_
      refine g_callV (p := 51) (As := [.ref (p9 + 14), .int ((h.1 6 2) + x2), .int r11, .int 0]) C dX11_lasts_70 ml_X11_282 yv_f0_goOneYear ⟨rfl, rfl⟩ ⟨Nat.le_of_ble_eq_true rfl, Nat.le_of_ble_eq_true rfl⟩ (hpC rfl rfl) rfl rfl rfl (Nat.le_of_ble_eq_true rfl) (ok_f0_goOneYear 51 (p9 + 14) ((h.1 6 2) + x2) r11 0 rfl (kf_10_1 kp9) h (tt_bind T)) ?_
      rintro _ h12 ⟨rfl, T⟩
      show G ΛC x 73 [(0, .ref 0), (2, .int x2)] [] h12
      refine g_iinc (v := x2 + 1) (q := 1) (L' := [(2, .int (x2 + 1)), (0, .ref 0)]) C dX11_lasts_73 rfl (by first | rfl | exact congrArg _ (by decide)) (by decide) rfl ?_
      refine g_goto (tgt := 28) C dX11_lasts_76 (by decide) ?_
      refine g_sub [1, 0] rfl ?_
      exact hL28 _ _ (tt_some T)

noncomputable def f11_lasts_28 (x2 : Int32) (h : Hp) : Option (Int32 × Hp) := lp (fun z : Int32 × Hp => f11_lasts_28_s z.1 z.2) (x2, h)
theorem k_f11_lasts_28 {x : Mx} {l : Launch} {post0 : Option Value → Hp → Prop} (C : Cx ΛC x l RX11 cX11_lasts rm_f11_lasts (some .int) 3 post0) {K : Int32 × Hp → Prop} (x2 : Int32) (h : Hp) (hR : ∀ (v : Int32) (h : Hp), K (v, h) → post0 (some (.int v)) h) (T : Tt (f11_lasts_28 x2 h) K) : G ΛC x 28 [(0, .ref 0), (2, .int x2)] [] h :=
  lp_ind (f := fun z : Int32 × Hp => f11_lasts_28_s z.1 z.2) (P := fun z : Int32 × Hp => G ΛC x 28 [(0, .ref 0), (2, .int z.1)] [] z.2) (K := K) (fun z T => k_f11_lasts_28_s C (K := KS (fun z : Int32 × Hp => G ΛC x 28 [(0, .ref 0), (2, .int z.1)] [] z.2) K) z.1 z.2 hR (fun _ _ q => q) T) (x2, h) T
noncomputable def f11_lasts (x1 : Int32) (h : Hp) : Option (Int32 × Hp) :=
  (f11_isBox x1 h).bind fun r1 => if r1 = 0 then (some ((-1), h)) else (gd (inb x1 6) <| (f0_copyOf 51 (8 + 2 * ix x1) h).bind fun h4 => f11_lasts_28 0 h4)
set_option maxRecDepth 100000 in
set_option maxHeartbeats 4000000 in
theorem k_f11_lasts {x : Mx} {l : Launch} {post0 : Option Value → Hp → Prop} (C : Cx ΛC x l RX11 cX11_lasts rm_f11_lasts (some .int) 3 post0) {K : Int32 × Hp → Prop} (x1 : Int32) (h : Hp) (hR : ∀ (v : Int32) (h : Hp), K (v, h) → post0 (some (.int v)) h) (T : Tt (f11_lasts x1 h) K) : G ΛC x 0 [(0, .ref 0), (1, .int x1)] [] h := by
  refine g_aload_n (q := 0) C dX11_lasts_0 rfl rfl ?_
  refine g_iload_n (q := 1) C dX11_lasts_1 rfl rfl ?_
  refine g_callV (p := 0) (As := [.int x1]) C dX11_lasts_2 ml_X11_129 yv_f11_isBox ⟨rfl, rfl⟩ ⟨Nat.le_of_ble_eq_true rfl, Nat.le_of_ble_eq_true rfl⟩ (hpC rfl rfl) rfl rfl rfl (Nat.le_of_ble_eq_true rfl) (ok_f11_isBox x1 h (tt_bind T)) ?_
  rintro _ _ ⟨r1, rfl, rfl, T⟩
  show G ΛC x 5 [(0, .ref 0), (1, .int x1)] [.int r1] h
  refine g_if_ne (tgt := 10) C dX11_lasts_5 (by decide) (fun c2 => ?_) (fun c2 => ?_)
  · have T := tt_f T c2
    refine g_aload_n (q := 0) C dX11_lasts_10 rfl rfl ?_
    refine g_getF (k := 8) (q := 51) C dX11_lasts_11 (hpC rfl rfl) rfl fl_X11_68 rfl rfl ?_
    refine g_aload_n (q := 0) C dX11_lasts_14 rfl rfl ?_
    refine g_getF (k := 2) (q := 6) C dX11_lasts_15 (hpC rfl rfl) rfl fl_X11_30 rfl rfl ?_
    refine g_getF (k := 0) (q := 7) C dX11_lasts_18 (hpC rfl rfl) rfl fl_X11_140 rfl rfl ?_
    refine g_iload_n (q := 1) C dX11_lasts_21 rfl rfl ?_
    obtain ⟨g3, T⟩ := tt_gd T
    refine g_aald (q := 8 + 2 * ix x1) C dX11_lasts_22 (hpC rfl rfl) rfl (inb_of rfl g3) rfl ?_
    refine g_callV (p := 51) (As := [.ref (8 + 2 * ix x1)]) C dX11_lasts_23 ml_X11_223 yv_f0_copyOf ⟨rfl, rfl⟩ ⟨Nat.le_of_ble_eq_true rfl, Nat.le_of_ble_eq_true rfl⟩ (hpC rfl rfl) rfl rfl rfl (Nat.le_of_ble_eq_true rfl) (ok_f0_copyOf 51 (8 + 2 * ix x1) rfl (kboxC (a := 7) rfl g3) h (tt_bind T)) ?_
    rintro _ h4 ⟨rfl, T⟩
    show G ΛC x 26 [(0, .ref 0), (1, .int x1)] [] h4
    refine g_iconst (v := 0) C dX11_lasts_26 (by decide) ?_
    refine g_istore_n (L' := [(2, .int 0), (0, .ref 0), (1, .int x1)]) C dX11_lasts_27 rfl (by decide) rfl ?_
    refine g_sub [1, 0] rfl ?_
    exact k_f11_lasts_28 C 0 h4 hR T
  · have T := tt_t T c2
    refine g_iconst (v := (-1)) C dX11_lasts_8 (by decide) ?_
    exact g_iret C dX11_lasts_9 (hR _ _ (tt_some T))

theorem ok_f11_lasts {l : Launch} {K : Int32 × Hp → Prop} (x1 : Int32) (h : Hp) (T : Tt (f11_lasts x1 h) K) : Ok ΛC l yX11_lasts cX11_lasts 3 (some .int) rm_f11_lasts [.ref 0, .int x1] h (PIw K) :=
  Ok.of RX11 rfl (by decide) ⟨rfl, rfl⟩ (Nat.le_of_ble_eq_true rfl) (fun x C => k_f11_lasts C x1 h (fun v _ q => ⟨v, rfl, q⟩) T)

abbrev rm_f11_laughterOnTrial : Room := { frames := 5, cells := 0, slots := 0, locals := 124 }
noncomputable def f11_laughterOnTrial_59 (x3 : Int32) (h : Hp) : Option (Int32 × Hp) :=
  some ((h.1 51 8) - x3, h)
set_option maxRecDepth 100000 in
set_option maxHeartbeats 4000000 in
theorem k_f11_laughterOnTrial_59 {x : Mx} {l : Launch} {post0 : Option Value → Hp → Prop} (C : Cx ΛC x l RX11 cX11_laughterOnTrial rm_f11_laughterOnTrial (some .int) 5 post0) {K : Int32 × Hp → Prop} (x3 : Int32) (h : Hp) (hR : ∀ (v : Int32) (h : Hp), K (v, h) → post0 (some (.int v)) h) (T : Tt (f11_laughterOnTrial_59 x3 h) K) : G ΛC x 59 [(0, .ref 0), (3, .int x3)] [] h := by
  refine g_aload_n (q := 0) C dX11_laughterOnTrial_59 rfl rfl ?_
  refine g_getF (k := 8) (q := 51) C dX11_laughterOnTrial_60 (hpC rfl rfl) rfl fl_X11_68 rfl rfl ?_
  refine g_getI (k := 8) C dX11_laughterOnTrial_63 (hpC rfl rfl) rfl fl_X11_156 rfl ?_
  refine g_iload_n (q := 1) C dX11_laughterOnTrial_66 rfl rfl ?_
  refine g_isub C dX11_laughterOnTrial_67 ?_
  exact g_iret C dX11_laughterOnTrial_68 (hR _ _ (tt_some T))

noncomputable def f11_laughterOnTrial_11_s (x1 : Int32) (x2 : Int32) (x3 : Int32) (x4 : Int32) (h : Hp) : Option ((Int32 × Hp) ⊕ (Int32 × Hp)) :=
  if x1 ≤ x4 then ((f11_laughterOnTrial_59 x3 h).map (fun z => .inr (z))) else ((f0_isLetGo 51 h).bind fun r3 => if r3 = 0 then ((f11_laughterOnTrial_59 x3 h).map (fun z => .inr (z))) else ((h.2.2 0 11).bind fun p5 => gd (decide (kdC p5 = 10)) <| (f0_goOneYear 51 (p5 + 14) ((h.1 6 2) + x4) x2 1 h).bind fun h7 => some (.inl (x4 + 1, h7))))
set_option maxRecDepth 100000 in
set_option maxHeartbeats 4000000 in
theorem k_f11_laughterOnTrial_11_s {x : Mx} {l : Launch} {post0 : Option Value → Hp → Prop} (C : Cx ΛC x l RX11 cX11_laughterOnTrial rm_f11_laughterOnTrial (some .int) 5 post0) {K : (Int32 × Hp) ⊕ (Int32 × Hp) → Prop} (x1 : Int32) (x2 : Int32) (x3 : Int32) (x4 : Int32) (h : Hp) (hR : ∀ (v : Int32) (h : Hp), K (.inr (v, h)) → post0 (some (.int v)) h) (hL11 : ∀ (x4 : Int32) (h : Hp), K (.inl (x4, h)) → G ΛC x 11 [(0, .ref 0), (1, .int x1), (2, .int x2), (3, .int x3), (4, .int x4)] [] h) (T : Tt (f11_laughterOnTrial_11_s x1 x2 x3 x4 h) K) : G ΛC x 11 [(0, .ref 0), (1, .int x1), (2, .int x2), (3, .int x3), (4, .int x4)] [] h := by
  refine g_iload (q := 4) C dX11_laughterOnTrial_11 rfl ?_
  refine g_iload_n (q := 1) C dX11_laughterOnTrial_13 rfl rfl ?_
  refine g_icmp_ge (tgt := 59) C dX11_laughterOnTrial_14 (by decide) (fun c2 => ?_) (fun c2 => ?_)
  · have T := tt_t T c2
    refine g_sub [0, 3] rfl ?_
    exact k_f11_laughterOnTrial_59 C x3 h hR (tt_map T)
  · have T := tt_f T c2
    refine g_aload_n (q := 0) C dX11_laughterOnTrial_17 rfl rfl ?_
    refine g_getF (k := 8) (q := 51) C dX11_laughterOnTrial_18 (hpC rfl rfl) rfl fl_X11_68 rfl rfl ?_
    refine g_callV (p := 51) (As := []) C dX11_laughterOnTrial_21 ml_X11_275 yv_f0_isLetGo ⟨rfl, rfl⟩ ⟨Nat.le_of_ble_eq_true rfl, Nat.le_of_ble_eq_true rfl⟩ (hpC rfl rfl) rfl rfl rfl (Nat.le_of_ble_eq_true rfl) (ok_f0_isLetGo 51 rfl h (tt_bind T)) ?_
    rintro _ _ ⟨r3, rfl, rfl, T⟩
    show G ΛC x 24 [(0, .ref 0), (1, .int x1), (2, .int x2), (3, .int x3), (4, .int x4)] [.int r3] h
    refine g_if_eq (tgt := 59) C dX11_laughterOnTrial_24 (by decide) (fun c4 => ?_) (fun c4 => ?_)
    · have T := tt_t T c4
      refine g_sub [0, 3] rfl ?_
      exact k_f11_laughterOnTrial_59 C x3 h hR (tt_map T)
    · have T := tt_f T c4
      refine g_aload_n (q := 0) C dX11_laughterOnTrial_27 rfl rfl ?_
      refine g_getF (k := 8) (q := 51) C dX11_laughterOnTrial_28 (hpC rfl rfl) rfl fl_X11_68 rfl rfl ?_
      refine g_aload_n (q := 0) C dX11_laughterOnTrial_31 rfl rfl ?_
      obtain ⟨p5, ep5, T⟩ := tt_bind T
      obtain ⟨g6, T⟩ := tt_gd T
      have kp5 : kdC p5 = 10 := of_decide_eq_true g6
      refine g_getD (k := 11) (q := p5) C dX11_laughterOnTrial_32 (hpC rfl rfl) rfl fl_X11_82 rfl ep5 ?_
      refine g_getF (k := 1) (q := p5 + 14) C dX11_laughterOnTrial_35 (hpC kp5 rfl) kp5 fl_X11_194 rfl rfl ?_
      refine g_aload_n (q := 0) C dX11_laughterOnTrial_38 rfl rfl ?_
      refine g_getF (k := 2) (q := 6) C dX11_laughterOnTrial_39 (hpC rfl rfl) rfl fl_X11_30 rfl rfl ?_
      refine g_getI (k := 2) C dX11_laughterOnTrial_42 (hpC rfl rfl) rfl fl_X11_198 rfl ?_
      refine g_iload (q := 4) C dX11_laughterOnTrial_45 rfl ?_
      refine g_iadd C dX11_laughterOnTrial_47 ?_
      refine g_iload_n (q := 2) C dX11_laughterOnTrial_48 rfl rfl ?_
      refine g_iconst (v := 1) C dX11_laughterOnTrial_49 (by decide) ?_
      refine g_callV (p := 51) (As := [.ref (p5 + 14), .int ((h.1 6 2) + x4), .int x2, .int 1]) C dX11_laughterOnTrial_50 ml_X11_282 yv_f0_goOneYear ⟨rfl, rfl⟩ ⟨Nat.le_of_ble_eq_true rfl, Nat.le_of_ble_eq_true rfl⟩ (hpC rfl rfl) rfl rfl rfl (Nat.le_of_ble_eq_true rfl) (ok_f0_goOneYear 51 (p5 + 14) ((h.1 6 2) + x4) x2 1 rfl (kf_10_1 kp5) h (tt_bind T)) ?_
      rintro _ h7 ⟨rfl, T⟩
      show G ΛC x 53 [(0, .ref 0), (1, .int x1), (2, .int x2), (3, .int x3), (4, .int x4)] [] h7
      refine g_iinc (v := x4 + 1) (q := 4) (L' := [(4, .int (x4 + 1)), (0, .ref 0), (1, .int x1), (2, .int x2), (3, .int x3)]) C dX11_laughterOnTrial_53 rfl (by first | rfl | exact congrArg _ (by decide)) (by decide) rfl ?_
      refine g_goto (tgt := 11) C dX11_laughterOnTrial_56 (by decide) ?_
      refine g_sub [1, 2, 3, 4, 0] rfl ?_
      exact hL11 _ _ (tt_some T)

noncomputable def f11_laughterOnTrial_11 (x1 : Int32) (x2 : Int32) (x3 : Int32) (x4 : Int32) (h : Hp) : Option (Int32 × Hp) := lp (fun z : Int32 × Hp => f11_laughterOnTrial_11_s x1 x2 x3 z.1 z.2) (x4, h)
theorem k_f11_laughterOnTrial_11 {x : Mx} {l : Launch} {post0 : Option Value → Hp → Prop} (C : Cx ΛC x l RX11 cX11_laughterOnTrial rm_f11_laughterOnTrial (some .int) 5 post0) {K : Int32 × Hp → Prop} (x1 : Int32) (x2 : Int32) (x3 : Int32) (x4 : Int32) (h : Hp) (hR : ∀ (v : Int32) (h : Hp), K (v, h) → post0 (some (.int v)) h) (T : Tt (f11_laughterOnTrial_11 x1 x2 x3 x4 h) K) : G ΛC x 11 [(0, .ref 0), (1, .int x1), (2, .int x2), (3, .int x3), (4, .int x4)] [] h :=
  lp_ind (f := fun z : Int32 × Hp => f11_laughterOnTrial_11_s x1 x2 x3 z.1 z.2) (P := fun z : Int32 × Hp => G ΛC x 11 [(0, .ref 0), (1, .int x1), (2, .int x2), (3, .int x3), (4, .int z.1)] [] z.2) (K := K) (fun z T => k_f11_laughterOnTrial_11_s C (K := KS (fun z : Int32 × Hp => G ΛC x 11 [(0, .ref 0), (1, .int x1), (2, .int x2), (3, .int x3), (4, .int z.1)] [] z.2) K) x1 x2 x3 z.1 z.2 hR (fun _ _ q => q) T) (x4, h) T
noncomputable def f11_laughterOnTrial (x1 : Int32) (x2 : Int32) (h : Hp) : Option (Int32 × Hp) :=
  lt (h.1 51 8) fun v1 => f11_laughterOnTrial_11 x1 x2 v1 0 h
set_option maxRecDepth 100000 in
set_option maxHeartbeats 4000000 in
theorem k_f11_laughterOnTrial {x : Mx} {l : Launch} {post0 : Option Value → Hp → Prop} (C : Cx ΛC x l RX11 cX11_laughterOnTrial rm_f11_laughterOnTrial (some .int) 5 post0) {K : Int32 × Hp → Prop} (x1 : Int32) (x2 : Int32) (h : Hp) (hR : ∀ (v : Int32) (h : Hp), K (v, h) → post0 (some (.int v)) h) (T : Tt (f11_laughterOnTrial x1 x2 h) K) : G ΛC x 0 [(0, .ref 0), (1, .int x1), (2, .int x2)] [] h := by
  refine g_aload_n (q := 0) C dX11_laughterOnTrial_0 rfl rfl ?_
  refine g_getF (k := 8) (q := 51) C dX11_laughterOnTrial_1 (hpC rfl rfl) rfl fl_X11_68 rfl rfl ?_
  refine g_getI (k := 8) C dX11_laughterOnTrial_4 (hpC rfl rfl) rfl fl_X11_156 rfl ?_
  obtain ⟨v1, ev1, T⟩ := tt_lt T
  refine g_nameI ev1 ?_
  refine g_istore_n (L' := [(3, .int v1), (0, .ref 0), (1, .int x1), (2, .int x2)]) C dX11_laughterOnTrial_7 rfl (by decide) rfl ?_
  refine g_iconst (v := 0) C dX11_laughterOnTrial_8 (by decide) ?_
  refine g_istore (L' := [(4, .int 0), (3, .int v1), (0, .ref 0), (1, .int x1), (2, .int x2)]) C dX11_laughterOnTrial_9 (by decide) rfl ?_
  refine g_sub [2, 3, 4, 1, 0] rfl ?_
  exact k_f11_laughterOnTrial_11 C x1 x2 v1 0 h hR T

theorem ok_f11_laughterOnTrial {l : Launch} {K : Int32 × Hp → Prop} (x1 : Int32) (x2 : Int32) (h : Hp) (T : Tt (f11_laughterOnTrial x1 x2 h) K) : Ok ΛC l yX11_laughterOnTrial cX11_laughterOnTrial 5 (some .int) rm_f11_laughterOnTrial [.ref 0, .int x1, .int x2] h (PIw K) :=
  Ok.of RX11 rfl (by decide) ⟨rfl, rfl⟩ (Nat.le_of_ble_eq_true rfl) (fun x C => k_f11_laughterOnTrial C x1 x2 h (fun v _ q => ⟨v, rfl, q⟩) T)

abbrev rm_f11_weighTurns : Room := { frames := 6, cells := 0, slots := 0, locals := 148 }
noncomputable def f11_weighTurns_106 (x1 : Int32) (x2 : Int32) (x3 : Int32) (h : Hp) : Option ((Int32 × Hp) ⊕ (Hp)) :=
  some (.inl (x3 + 1, h))
set_option maxRecDepth 100000 in
set_option maxHeartbeats 4000000 in
theorem k_f11_weighTurns_106 {x : Mx} {l : Launch} {post0 : Option Value → Hp → Prop} (C : Cx ΛC x l RX11 cX11_weighTurns rm_f11_weighTurns none 6 post0) {K : (Int32 × Hp) ⊕ (Hp) → Prop} (x1 : Int32) (x2 : Int32) (x3 : Int32) (h : Hp) (hR : ∀ h : Hp, K (.inr h) → post0 none h) (hL2 : ∀ (x3 : Int32) (h : Hp), K (.inl (x3, h)) → G ΛC x 2 [(0, .ref 0), (1, .int x1), (2, .int x2), (3, .int x3)] [] h) (T : Tt (f11_weighTurns_106 x1 x2 x3 h) K) : G ΛC x 106 [(0, .ref 0), (1, .int x1), (2, .int x2), (3, .int x3)] [] h := by
  refine g_iinc (v := x3 + 1) (q := 3) (L' := [(3, .int (x3 + 1)), (0, .ref 0), (1, .int x1), (2, .int x2)]) C dX11_weighTurns_106 rfl (by first | rfl | exact congrArg _ (by decide)) (by decide) rfl ?_
  refine g_goto (tgt := 2) C dX11_weighTurns_109 (by decide) ?_
  refine g_sub [1, 2, 3, 0] rfl ?_
  exact hL2 _ _ (tt_some T)

noncomputable def f11_weighTurns_86 (x1 : Int32) (x2 : Int32) (x3 : Int32) (x4 : Int32) (x5 : Int32) (h : Hp) : Option ((Int32 × Hp) ⊕ ((Int32 × Hp) ⊕ (Hp))) :=
  gd (inb ((x3 * 10) + x4) 30) <| lt (wI h 53 (ix ((x3 * 10) + x4)) x5) fun h5 => some (.inl (x4 + 1, h5))
set_option maxRecDepth 100000 in
set_option maxHeartbeats 4000000 in
theorem k_f11_weighTurns_86 {x : Mx} {l : Launch} {post0 : Option Value → Hp → Prop} (C : Cx ΛC x l RX11 cX11_weighTurns rm_f11_weighTurns none 6 post0) {K : (Int32 × Hp) ⊕ ((Int32 × Hp) ⊕ (Hp)) → Prop} (x1 : Int32) (x2 : Int32) (x3 : Int32) (x4 : Int32) (x5 : Int32) (h : Hp) (hR : ∀ h : Hp, K (.inr (.inr h)) → post0 none h) (hL2 : ∀ (x3 : Int32) (h : Hp), K (.inr (.inl (x3, h))) → G ΛC x 2 [(0, .ref 0), (1, .int x1), (2, .int x2), (3, .int x3)] [] h) (hL10 : ∀ (x4 : Int32) (h : Hp), K (.inl (x4, h)) → G ΛC x 10 [(0, .ref 0), (1, .int x1), (2, .int x2), (3, .int x3), (4, .int x4)] [] h) (T : Tt (f11_weighTurns_86 x1 x2 x3 x4 x5 h) K) : G ΛC x 86 [(0, .ref 0), (1, .int x1), (2, .int x2), (3, .int x3), (4, .int x4), (5, .int x5)] [] h := by
  refine g_aload_n (q := 0) C dX11_weighTurns_86 rfl rfl ?_
  refine g_getF (k := 9) (q := 53) C dX11_weighTurns_87 (hpC rfl rfl) rfl fl_X11_72 rfl rfl ?_
  refine g_iload_n (q := 3) C dX11_weighTurns_90 rfl rfl ?_
  refine g_bipush (v := 10) C dX11_weighTurns_91 (by decide) ?_
  refine g_imul C dX11_weighTurns_93 ?_
  refine g_iload (q := 4) C dX11_weighTurns_94 rfl ?_
  refine g_iadd C dX11_weighTurns_96 ?_
  refine g_iload (q := 5) C dX11_weighTurns_97 rfl ?_
  obtain ⟨g4, T⟩ := tt_gd T
  obtain ⟨h5, eh5, T⟩ := tt_lt T
  refine g_iast C dX11_weighTurns_99 (hpC rfl rfl) rfl (inb_of rfl g4) eh5 ?_
  refine g_iinc (v := x4 + 1) (q := 4) (L' := [(4, .int (x4 + 1)), (0, .ref 0), (1, .int x1), (2, .int x2), (3, .int x3), (5, .int x5)]) C dX11_weighTurns_100 rfl (by first | rfl | exact congrArg _ (by decide)) (by decide) rfl ?_
  refine g_goto (tgt := 10) C dX11_weighTurns_103 (by decide) ?_
  refine g_sub [1, 2, 3, 4, 0] rfl ?_
  exact hL10 _ _ (tt_some T)

noncomputable def f11_weighTurns_10_s (x1 : Int32) (x2 : Int32) (x3 : Int32) (x4 : Int32) (h : Hp) : Option ((Int32 × Hp) ⊕ ((Int32 × Hp) ⊕ (Hp))) :=
  if 10 ≤ x4 then ((f11_weighTurns_106 x1 x2 x3 h).map (fun z => .inr (z))) else (if x2 < x4 then (f11_weighTurns_86 x1 x2 x3 x4 0 h) else (if h.1 6 1 ≤ x3 then (f11_weighTurns_86 x1 x2 x3 x4 0 h) else (gd (inb x3 6) <| (f0_copyOf 51 (8 + 2 * ix x3) h).bind fun h8 => lt (wI h8 51 5 (if (h8.1 51 5) + x4 < 99 then (h8.1 51 5) + x4 else 99 : Int32)) fun h9 => (f11_isDampAsItGoes h9).bind fun r10 => (f11_laughterOnTrial x1 r10 h9).bind fun (r11, h12) => f11_weighTurns_86 x1 x2 x3 x4 r11 h12)))
set_option maxRecDepth 100000 in
set_option maxHeartbeats 4000000 in
theorem k_f11_weighTurns_10_s {x : Mx} {l : Launch} {post0 : Option Value → Hp → Prop} (C : Cx ΛC x l RX11 cX11_weighTurns rm_f11_weighTurns none 6 post0) {K : (Int32 × Hp) ⊕ ((Int32 × Hp) ⊕ (Hp)) → Prop} (x1 : Int32) (x2 : Int32) (x3 : Int32) (x4 : Int32) (h : Hp) (hR : ∀ h : Hp, K (.inr (.inr h)) → post0 none h) (hL2 : ∀ (x3 : Int32) (h : Hp), K (.inr (.inl (x3, h))) → G ΛC x 2 [(0, .ref 0), (1, .int x1), (2, .int x2), (3, .int x3)] [] h) (hL10 : ∀ (x4 : Int32) (h : Hp), K (.inl (x4, h)) → G ΛC x 10 [(0, .ref 0), (1, .int x1), (2, .int x2), (3, .int x3), (4, .int x4)] [] h) (T : Tt (f11_weighTurns_10_s x1 x2 x3 x4 h) K) : G ΛC x 10 [(0, .ref 0), (1, .int x1), (2, .int x2), (3, .int x3), (4, .int x4)] [] h := by
  refine g_iload (q := 4) C dX11_weighTurns_10 rfl ?_
  refine g_bipush (v := 10) C dX11_weighTurns_12 (by decide) ?_
  refine g_icmp_ge (tgt := 106) C dX11_weighTurns_14 (by decide) (fun c2 => ?_) (fun c2 => ?_)
  · have T := tt_t T c2
    refine g_sub [0, 1, 2, 3] rfl ?_
    exact k_f11_weighTurns_106 C x1 x2 x3 h hR hL2 (tt_map T)
  · have T := tt_f T c2
    refine g_iconst (v := 0) C dX11_weighTurns_17 (by decide) ?_
    refine g_istore (L' := [(5, .int 0), (0, .ref 0), (1, .int x1), (2, .int x2), (3, .int x3), (4, .int x4)]) C dX11_weighTurns_18 (by decide) rfl ?_
    refine g_iload (q := 5) C dX11_weighTurns_20 rfl ?_
    refine g_iload_n (q := 3) C dX11_weighTurns_22 rfl rfl ?_
    refine g_icmp_gt (tgt := 86) C dX11_weighTurns_23 (by decide) (fun c3 => ?_) (fun c3 => ?_)
    · have T := tt_t T c3
      refine g_sub [1, 2, 3, 4, 5, 0] rfl ?_
      exact k_f11_weighTurns_86 C x1 x2 x3 x4 0 h hR hL2 hL10 T
    · have T := tt_f T c3
      refine g_iload_n (q := 4) C dX11_weighTurns_26 rfl rfl ?_
      refine g_aload_n (q := 1) C dX11_weighTurns_27 rfl rfl ?_
      refine g_getF (k := 2) (q := 6) C dX11_weighTurns_28 (hpC rfl rfl) rfl fl_X11_30 rfl rfl ?_
      refine g_getI (k := 1) C dX11_weighTurns_31 (hpC rfl rfl) rfl fl_X11_263 rfl ?_
      refine g_icmp_ge (tgt := 86) C dX11_weighTurns_34 (by decide) (fun c6 => ?_) (fun c6 => ?_)
      · have T := tt_t T c6
        refine g_sub [1, 2, 3, 4, 5, 0] rfl ?_
        exact k_f11_weighTurns_86 C x1 x2 x3 x4 0 h hR hL2 hL10 T
      · have T := tt_f T c6
        refine g_aload_n (q := 1) C dX11_weighTurns_37 rfl rfl ?_
        refine g_getF (k := 8) (q := 51) C dX11_weighTurns_38 (hpC rfl rfl) rfl fl_X11_68 rfl rfl ?_
        refine g_aload_n (q := 1) C dX11_weighTurns_41 rfl rfl ?_
        refine g_getF (k := 2) (q := 6) C dX11_weighTurns_42 (hpC rfl rfl) rfl fl_X11_30 rfl rfl ?_
        refine g_getF (k := 0) (q := 7) C dX11_weighTurns_45 (hpC rfl rfl) rfl fl_X11_140 rfl rfl ?_
        refine g_iload_n (q := 4) C dX11_weighTurns_48 rfl rfl ?_
        obtain ⟨g7, T⟩ := tt_gd T
        refine g_aald (q := 8 + 2 * ix x3) C dX11_weighTurns_49 (hpC rfl rfl) rfl (inb_of rfl g7) rfl ?_
        refine g_callV (p := 51) (As := [.ref (8 + 2 * ix x3)]) C dX11_weighTurns_50 ml_X11_223 yv_f0_copyOf ⟨rfl, rfl⟩ ⟨Nat.le_of_ble_eq_true rfl, Nat.le_of_ble_eq_true rfl⟩ (hpC rfl rfl) rfl rfl rfl (Nat.le_of_ble_eq_true rfl) (ok_f0_copyOf 51 (8 + 2 * ix x3) rfl (kboxC (a := 7) rfl g7) h (tt_bind T)) ?_
        rintro _ h8 ⟨rfl, T⟩
        show G ΛC x 53 [(5, .int 0), (0, .ref 0), (1, .int x1), (2, .int x2), (3, .int x3), (4, .int x4)] [] h8
        refine g_aload_n (q := 1) C dX11_weighTurns_53 rfl rfl ?_
        refine g_getF (k := 8) (q := 51) C dX11_weighTurns_54 (hpC rfl rfl) rfl fl_X11_68 rfl rfl ?_
        refine g_bipush (v := 99) C dX11_weighTurns_57 (by decide) ?_
        refine g_aload_n (q := 1) C dX11_weighTurns_59 rfl rfl ?_
        refine g_getF (k := 8) (q := 51) C dX11_weighTurns_60 (hpC rfl rfl) rfl fl_X11_68 rfl rfl ?_
        refine g_getI (k := 5) C dX11_weighTurns_63 (hpC rfl rfl) rfl fl_X11_144 rfl ?_
        refine g_iload (q := 5) C dX11_weighTurns_66 rfl ?_
        refine g_iadd C dX11_weighTurns_68 ?_
        refine g_mmin C dX11_weighTurns_69 mm_X11_211 ms_min mi_math mc_min (Nat.le_of_ble_eq_true rfl) (Nat.le_of_ble_eq_true rfl) ?_
        obtain ⟨h9, eh9, T⟩ := tt_lt T
        refine g_putI (k := 5) C dX11_weighTurns_72 (hpC rfl rfl) rfl fp_X11_144 rfl eh9 ?_
        refine g_aload_n (q := 1) C dX11_weighTurns_75 rfl rfl ?_
        refine g_iload_n (q := 2) C dX11_weighTurns_76 rfl rfl ?_
        refine g_aload_n (q := 1) C dX11_weighTurns_77 rfl rfl ?_
        refine g_callV (p := 0) (As := []) C dX11_weighTurns_78 ml_X11_279 yv_f11_isDampAsItGoes ⟨rfl, rfl⟩ ⟨Nat.le_of_ble_eq_true rfl, Nat.le_of_ble_eq_true rfl⟩ (hpC rfl rfl) rfl rfl rfl (Nat.le_of_ble_eq_true rfl) (ok_f11_isDampAsItGoes h9 (tt_bind T)) ?_
        rintro _ _ ⟨r10, rfl, rfl, T⟩
        show G ΛC x 81 [(5, .int 0), (0, .ref 0), (1, .int x1), (2, .int x2), (3, .int x3), (4, .int x4)] [.int r10, .int x1, .ref 0] h9
        refine g_callV (p := 0) (As := [.int x1, .int r10]) C dX11_weighTurns_81 ml_X11_292 yv_f11_laughterOnTrial ⟨rfl, rfl⟩ ⟨Nat.le_of_ble_eq_true rfl, Nat.le_of_ble_eq_true rfl⟩ (hpC rfl rfl) rfl rfl rfl (Nat.le_of_ble_eq_true rfl) (ok_f11_laughterOnTrial x1 r10 h9 (tt_bind T)) ?_
        rintro _ h12 ⟨r11, rfl, T⟩
        show G ΛC x 84 [(5, .int 0), (0, .ref 0), (1, .int x1), (2, .int x2), (3, .int x3), (4, .int x4)] [.int r11] h12
        refine g_istore (L' := [(5, .int r11), (0, .ref 0), (1, .int x1), (2, .int x2), (3, .int x3), (4, .int x4)]) C dX11_weighTurns_84 (by decide) rfl ?_
        refine g_sub [1, 2, 3, 4, 5, 0] rfl ?_
        exact k_f11_weighTurns_86 C x1 x2 x3 x4 r11 h12 hR hL2 hL10 T

noncomputable def f11_weighTurns_10 (x1 : Int32) (x2 : Int32) (x3 : Int32) (x4 : Int32) (h : Hp) : Option ((Int32 × Hp) ⊕ (Hp)) := lp (fun z : Int32 × Hp => f11_weighTurns_10_s x1 x2 x3 z.1 z.2) (x4, h)
theorem k_f11_weighTurns_10 {x : Mx} {l : Launch} {post0 : Option Value → Hp → Prop} (C : Cx ΛC x l RX11 cX11_weighTurns rm_f11_weighTurns none 6 post0) {K : (Int32 × Hp) ⊕ (Hp) → Prop} (x1 : Int32) (x2 : Int32) (x3 : Int32) (x4 : Int32) (h : Hp) (hR : ∀ h : Hp, K (.inr h) → post0 none h) (hL2 : ∀ (x3 : Int32) (h : Hp), K (.inl (x3, h)) → G ΛC x 2 [(0, .ref 0), (1, .int x1), (2, .int x2), (3, .int x3)] [] h) (T : Tt (f11_weighTurns_10 x1 x2 x3 x4 h) K) : G ΛC x 10 [(0, .ref 0), (1, .int x1), (2, .int x2), (3, .int x3), (4, .int x4)] [] h :=
  lp_ind (f := fun z : Int32 × Hp => f11_weighTurns_10_s x1 x2 x3 z.1 z.2) (P := fun z : Int32 × Hp => G ΛC x 10 [(0, .ref 0), (1, .int x1), (2, .int x2), (3, .int x3), (4, .int z.1)] [] z.2) (K := K) (fun z T => k_f11_weighTurns_10_s C (K := KS (fun z : Int32 × Hp => G ΛC x 10 [(0, .ref 0), (1, .int x1), (2, .int x2), (3, .int x3), (4, .int z.1)] [] z.2) K) x1 x2 x3 z.1 z.2 hR hL2 (fun _ _ q => q) T) (x4, h) T
noncomputable def f11_weighTurns_2_s (x1 : Int32) (x2 : Int32) (x3 : Int32) (h : Hp) : Option ((Int32 × Hp) ⊕ (Hp)) :=
  if 3 ≤ x3 then (some (.inr (h))) else (f11_weighTurns_10 x1 x2 x3 0 h)
set_option maxRecDepth 100000 in
set_option maxHeartbeats 4000000 in
theorem k_f11_weighTurns_2_s {x : Mx} {l : Launch} {post0 : Option Value → Hp → Prop} (C : Cx ΛC x l RX11 cX11_weighTurns rm_f11_weighTurns none 6 post0) {K : (Int32 × Hp) ⊕ (Hp) → Prop} (x1 : Int32) (x2 : Int32) (x3 : Int32) (h : Hp) (hR : ∀ h : Hp, K (.inr h) → post0 none h) (hL2 : ∀ (x3 : Int32) (h : Hp), K (.inl (x3, h)) → G ΛC x 2 [(0, .ref 0), (1, .int x1), (2, .int x2), (3, .int x3)] [] h) (T : Tt (f11_weighTurns_2_s x1 x2 x3 h) K) : G ΛC x 2 [(0, .ref 0), (1, .int x1), (2, .int x2), (3, .int x3)] [] h := by
  refine g_iload_n (q := 3) C dX11_weighTurns_2 rfl rfl ?_
  refine g_iconst (v := 3) C dX11_weighTurns_3 (by decide) ?_
  refine g_icmp_ge (tgt := 112) C dX11_weighTurns_4 (by decide) (fun c1 => ?_) (fun c1 => ?_)
  · have T := tt_t T c1
    exact g_vret C dX11_weighTurns_112 (hR _ (tt_some T))
  · have T := tt_f T c1
    refine g_iconst (v := 0) C dX11_weighTurns_7 (by decide) ?_
    refine g_istore (L' := [(4, .int 0), (0, .ref 0), (1, .int x1), (2, .int x2), (3, .int x3)]) C dX11_weighTurns_8 (by decide) rfl ?_
    refine g_sub [1, 2, 3, 4, 0] rfl ?_
    exact k_f11_weighTurns_10 C x1 x2 x3 0 h hR hL2 T

noncomputable def f11_weighTurns_2 (x1 : Int32) (x2 : Int32) (x3 : Int32) (h : Hp) : Option (Hp) := lp (fun z : Int32 × Hp => f11_weighTurns_2_s x1 x2 z.1 z.2) (x3, h)
theorem k_f11_weighTurns_2 {x : Mx} {l : Launch} {post0 : Option Value → Hp → Prop} (C : Cx ΛC x l RX11 cX11_weighTurns rm_f11_weighTurns none 6 post0) {K : Hp → Prop} (x1 : Int32) (x2 : Int32) (x3 : Int32) (h : Hp) (hR : ∀ h : Hp, K h → post0 none h) (T : Tt (f11_weighTurns_2 x1 x2 x3 h) K) : G ΛC x 2 [(0, .ref 0), (1, .int x1), (2, .int x2), (3, .int x3)] [] h :=
  lp_ind (f := fun z : Int32 × Hp => f11_weighTurns_2_s x1 x2 z.1 z.2) (P := fun z : Int32 × Hp => G ΛC x 2 [(0, .ref 0), (1, .int x1), (2, .int x2), (3, .int z.1)] [] z.2) (K := K) (fun z T => k_f11_weighTurns_2_s C (K := KS (fun z : Int32 × Hp => G ΛC x 2 [(0, .ref 0), (1, .int x1), (2, .int x2), (3, .int z.1)] [] z.2) K) x1 x2 z.1 z.2 hR (fun _ _ q => q) T) (x3, h) T
noncomputable def f11_weighTurns (x1 : Int32) (x2 : Int32) (h : Hp) : Option (Hp) :=
  f11_weighTurns_2 x1 x2 0 h
set_option maxRecDepth 100000 in
set_option maxHeartbeats 4000000 in
theorem k_f11_weighTurns {x : Mx} {l : Launch} {post0 : Option Value → Hp → Prop} (C : Cx ΛC x l RX11 cX11_weighTurns rm_f11_weighTurns none 6 post0) {K : Hp → Prop} (x1 : Int32) (x2 : Int32) (h : Hp) (hR : ∀ h : Hp, K h → post0 none h) (T : Tt (f11_weighTurns x1 x2 h) K) : G ΛC x 0 [(0, .ref 0), (1, .int x1), (2, .int x2)] [] h := by
  refine g_iconst (v := 0) C dX11_weighTurns_0 (by decide) ?_
  refine g_istore_n (L' := [(3, .int 0), (0, .ref 0), (1, .int x1), (2, .int x2)]) C dX11_weighTurns_1 rfl (by decide) rfl ?_
  refine g_sub [1, 2, 3, 0] rfl ?_
  exact k_f11_weighTurns_2 C x1 x2 0 h hR T

theorem ok_f11_weighTurns {l : Launch} {K : Hp → Prop} (x1 : Int32) (x2 : Int32) (h : Hp) (T : Tt (f11_weighTurns x1 x2 h) K) : Ok ΛC l yX11_weighTurns cX11_weighTurns 6 none rm_f11_weighTurns [.ref 0, .int x1, .int x2] h (PVw K) :=
  Ok.of RX11 rfl (by decide) ⟨rfl, rfl⟩ (Nat.le_of_ble_eq_true rfl) (fun x C => k_f11_weighTurns C x1 x2 h (fun _ q => ⟨rfl, q⟩) T)

abbrev rm_f11_windBest : Room := { frames := 0, cells := 0, slots := 0, locals := 0 }
noncomputable def f11_windBest_108 (x1 : Int32) (x2 : Int32) (x3 : Int32) (h : Hp) : Option ((Int32 × Int32 × Hp) ⊕ (Int32 × Hp)) :=
  some (.inl (x2, x3 + 1, h))
set_option maxRecDepth 100000 in
set_option maxHeartbeats 4000000 in
theorem k_f11_windBest_108 {x : Mx} {l : Launch} {post0 : Option Value → Hp → Prop} (C : Cx ΛC x l RX11 cX11_windBest rm_f11_windBest (some .int) 7 post0) {K : (Int32 × Int32 × Hp) ⊕ (Int32 × Hp) → Prop} (x1 : Int32) (x2 : Int32) (x3 : Int32) (h : Hp) (hR : ∀ (v : Int32) (h : Hp), K (.inr (v, h)) → post0 (some (.int v)) h) (hL4 : ∀ (x2 : Int32) (x3 : Int32) (h : Hp), K (.inl (x2, x3, h)) → G ΛC x 4 [(0, .ref 0), (1, .int x1), (2, .int x2), (3, .int x3)] [] h) (T : Tt (f11_windBest_108 x1 x2 x3 h) K) : G ΛC x 108 [(0, .ref 0), (1, .int x1), (2, .int x2), (3, .int x3)] [] h := by
  refine g_iinc (v := x3 + 1) (q := 3) (L' := [(3, .int (x3 + 1)), (0, .ref 0), (1, .int x1), (2, .int x2)]) C dX11_windBest_108 rfl (by first | rfl | exact congrArg _ (by decide)) (by decide) rfl ?_
  refine g_goto (tgt := 4) C dX11_windBest_111 (by decide) ?_
  refine g_sub [1, 2, 3, 0] rfl ?_
  exact hL4 _ _ _ (tt_some T)

noncomputable def f11_windBest_102 (x1 : Int32) (x2 : Int32) (x3 : Int32) (x4 : Int32) (h : Hp) : Option ((Int32 × Int32 × Hp) ⊕ ((Int32 × Int32 × Hp) ⊕ (Int32 × Hp))) :=
  some (.inl (x2, x4 + 1, h))
set_option maxRecDepth 100000 in
set_option maxHeartbeats 4000000 in
theorem k_f11_windBest_102 {x : Mx} {l : Launch} {post0 : Option Value → Hp → Prop} (C : Cx ΛC x l RX11 cX11_windBest rm_f11_windBest (some .int) 7 post0) {K : (Int32 × Int32 × Hp) ⊕ ((Int32 × Int32 × Hp) ⊕ (Int32 × Hp)) → Prop} (x1 : Int32) (x2 : Int32) (x3 : Int32) (x4 : Int32) (h : Hp) (hR : ∀ (v : Int32) (h : Hp), K (.inr (.inr (v, h))) → post0 (some (.int v)) h) (hL4 : ∀ (x2 : Int32) (x3 : Int32) (h : Hp), K (.inr (.inl (x2, x3, h))) → G ΛC x 4 [(0, .ref 0), (1, .int x1), (2, .int x2), (3, .int x3)] [] h) (hL12 : ∀ (x2 : Int32) (x4 : Int32) (h : Hp), K (.inl (x2, x4, h)) → G ΛC x 12 [(0, .ref 0), (1, .int x1), (2, .int x2), (3, .int x3), (4, .int x4)] [] h) (T : Tt (f11_windBest_102 x1 x2 x3 x4 h) K) : G ΛC x 102 [(0, .ref 0), (1, .int x1), (2, .int x2), (3, .int x3), (4, .int x4)] [] h := by
  refine g_iinc (v := x4 + 1) (q := 4) (L' := [(4, .int (x4 + 1)), (0, .ref 0), (1, .int x1), (2, .int x2), (3, .int x3)]) C dX11_windBest_102 rfl (by first | rfl | exact congrArg _ (by decide)) (by decide) rfl ?_
  refine g_goto (tgt := 12) C dX11_windBest_105 (by decide) ?_
  refine g_sub [1, 2, 3, 4, 0] rfl ?_
  exact hL12 _ _ _ (tt_some T)

noncomputable def f11_windBest_96 (x1 : Int32) (x2 : Int32) (x3 : Int32) (x4 : Int32) (x5 : Int32) (h : Hp) : Option ((Int32 × Int32 × Hp) ⊕ ((Int32 × Int32 × Hp) ⊕ ((Int32 × Int32 × Hp) ⊕ (Int32 × Hp)))) :=
  some (.inl (x2, x5 + 1, h))
set_option maxRecDepth 100000 in
set_option maxHeartbeats 4000000 in
theorem k_f11_windBest_96 {x : Mx} {l : Launch} {post0 : Option Value → Hp → Prop} (C : Cx ΛC x l RX11 cX11_windBest rm_f11_windBest (some .int) 7 post0) {K : (Int32 × Int32 × Hp) ⊕ ((Int32 × Int32 × Hp) ⊕ ((Int32 × Int32 × Hp) ⊕ (Int32 × Hp))) → Prop} (x1 : Int32) (x2 : Int32) (x3 : Int32) (x4 : Int32) (x5 : Int32) (h : Hp) (hR : ∀ (v : Int32) (h : Hp), K (.inr (.inr (.inr (v, h)))) → post0 (some (.int v)) h) (hL4 : ∀ (x2 : Int32) (x3 : Int32) (h : Hp), K (.inr (.inr (.inl (x2, x3, h)))) → G ΛC x 4 [(0, .ref 0), (1, .int x1), (2, .int x2), (3, .int x3)] [] h) (hL12 : ∀ (x2 : Int32) (x4 : Int32) (h : Hp), K (.inr (.inl (x2, x4, h))) → G ΛC x 12 [(0, .ref 0), (1, .int x1), (2, .int x2), (3, .int x3), (4, .int x4)] [] h) (hL23 : ∀ (x2 : Int32) (x5 : Int32) (h : Hp), K (.inl (x2, x5, h)) → G ΛC x 23 [(0, .ref 0), (1, .int x1), (2, .int x2), (3, .int x3), (4, .int x4), (5, .int x5)] [] h) (T : Tt (f11_windBest_96 x1 x2 x3 x4 x5 h) K) : G ΛC x 96 [(0, .ref 0), (1, .int x1), (2, .int x2), (3, .int x3), (4, .int x4), (5, .int x5)] [] h := by
  refine g_iinc (v := x5 + 1) (q := 5) (L' := [(5, .int (x5 + 1)), (0, .ref 0), (1, .int x1), (2, .int x2), (3, .int x3), (4, .int x4)]) C dX11_windBest_96 rfl (by first | rfl | exact congrArg _ (by decide)) (by decide) rfl ?_
  refine g_goto (tgt := 23) C dX11_windBest_99 (by decide) ?_
  refine g_sub [1, 2, 3, 4, 5, 0] rfl ?_
  exact hL23 _ _ _ (tt_some T)

noncomputable def f11_windBest_23_s (x1 : Int32) (x2 : Int32) (x3 : Int32) (x4 : Int32) (x5 : Int32) (h : Hp) : Option ((Int32 × Int32 × Hp) ⊕ ((Int32 × Int32 × Hp) ⊕ ((Int32 × Int32 × Hp) ⊕ (Int32 × Hp)))) :=
  if x1 < (x3 + x4) + x5 then ((f11_windBest_102 x1 x2 x3 x4 h).map (fun z => .inr (z))) else (gd (inb x3 30) <| gd (inb (10 + x4) 30) <| gd (inb (20 + x5) 30) <| lt (((h.1 53 (ix x3)) + (h.1 53 (ix (10 + x4)))) + (h.1 53 (ix (20 + x5)))) fun v7 => if v7 ≤ x2 then (f11_windBest_96 x1 x2 x3 x4 x5 h) else (gd (inb 0 3) <| lt (wI h 54 (ix 0) x3) fun h10 => gd (inb 1 3) <| lt (wI h10 54 (ix 1) x4) fun h12 => gd (inb 2 3) <| lt (wI h12 54 (ix 2) x5) fun h14 => f11_windBest_96 x1 v7 x3 x4 x5 h14))
set_option maxRecDepth 100000 in
set_option maxHeartbeats 4000000 in
theorem k_f11_windBest_23_s {x : Mx} {l : Launch} {post0 : Option Value → Hp → Prop} (C : Cx ΛC x l RX11 cX11_windBest rm_f11_windBest (some .int) 7 post0) {K : (Int32 × Int32 × Hp) ⊕ ((Int32 × Int32 × Hp) ⊕ ((Int32 × Int32 × Hp) ⊕ (Int32 × Hp))) → Prop} (x1 : Int32) (x2 : Int32) (x3 : Int32) (x4 : Int32) (x5 : Int32) (h : Hp) (hR : ∀ (v : Int32) (h : Hp), K (.inr (.inr (.inr (v, h)))) → post0 (some (.int v)) h) (hL4 : ∀ (x2 : Int32) (x3 : Int32) (h : Hp), K (.inr (.inr (.inl (x2, x3, h)))) → G ΛC x 4 [(0, .ref 0), (1, .int x1), (2, .int x2), (3, .int x3)] [] h) (hL12 : ∀ (x2 : Int32) (x4 : Int32) (h : Hp), K (.inr (.inl (x2, x4, h))) → G ΛC x 12 [(0, .ref 0), (1, .int x1), (2, .int x2), (3, .int x3), (4, .int x4)] [] h) (hL23 : ∀ (x2 : Int32) (x5 : Int32) (h : Hp), K (.inl (x2, x5, h)) → G ΛC x 23 [(0, .ref 0), (1, .int x1), (2, .int x2), (3, .int x3), (4, .int x4), (5, .int x5)] [] h) (T : Tt (f11_windBest_23_s x1 x2 x3 x4 x5 h) K) : G ΛC x 23 [(0, .ref 0), (1, .int x1), (2, .int x2), (3, .int x3), (4, .int x4), (5, .int x5)] [] h := by
  refine g_iload_n (q := 3) C dX11_windBest_23 rfl rfl ?_
  refine g_iload (q := 4) C dX11_windBest_24 rfl ?_
  refine g_iadd C dX11_windBest_26 ?_
  refine g_iload (q := 5) C dX11_windBest_27 rfl ?_
  refine g_iadd C dX11_windBest_29 ?_
  refine g_iload_n (q := 1) C dX11_windBest_30 rfl rfl ?_
  refine g_icmp_gt (tgt := 102) C dX11_windBest_31 (by decide) (fun c3 => ?_) (fun c3 => ?_)
  · have T := tt_t T c3
    refine g_sub [0, 1, 2, 3, 4] rfl ?_
    exact k_f11_windBest_102 C x1 x2 x3 x4 h hR hL4 hL12 (tt_map T)
  · have T := tt_f T c3
    refine g_aload_n (q := 0) C dX11_windBest_34 rfl rfl ?_
    refine g_getF (k := 9) (q := 53) C dX11_windBest_35 (hpC rfl rfl) rfl fl_X11_72 rfl rfl ?_
    refine g_iload_n (q := 3) C dX11_windBest_38 rfl rfl ?_
    obtain ⟨g4, T⟩ := tt_gd T
    refine g_iald C dX11_windBest_39 (hpC rfl rfl) rfl (inb_of rfl g4) ?_
    refine g_aload_n (q := 0) C dX11_windBest_40 rfl rfl ?_
    refine g_getF (k := 9) (q := 53) C dX11_windBest_41 (hpC rfl rfl) rfl fl_X11_72 rfl rfl ?_
    refine g_bipush (v := 10) C dX11_windBest_44 (by decide) ?_
    refine g_iload (q := 4) C dX11_windBest_46 rfl ?_
    refine g_iadd C dX11_windBest_48 ?_
    obtain ⟨g5, T⟩ := tt_gd T
    refine g_iald C dX11_windBest_49 (hpC rfl rfl) rfl (inb_of rfl g5) ?_
    refine g_iadd C dX11_windBest_50 ?_
    refine g_aload_n (q := 0) C dX11_windBest_51 rfl rfl ?_
    refine g_getF (k := 9) (q := 53) C dX11_windBest_52 (hpC rfl rfl) rfl fl_X11_72 rfl rfl ?_
    refine g_bipush (v := 20) C dX11_windBest_55 (by decide) ?_
    refine g_iload (q := 5) C dX11_windBest_57 rfl ?_
    refine g_iadd C dX11_windBest_59 ?_
    obtain ⟨g6, T⟩ := tt_gd T
    refine g_iald C dX11_windBest_60 (hpC rfl rfl) rfl (inb_of rfl g6) ?_
    refine g_iadd C dX11_windBest_61 ?_
    obtain ⟨v7, ev7, T⟩ := tt_lt T
    refine g_nameI ev7 ?_
    refine g_istore (L' := [(6, .int v7), (0, .ref 0), (1, .int x1), (2, .int x2), (3, .int x3), (4, .int x4), (5, .int x5)]) C dX11_windBest_62 (by decide) rfl ?_
    refine g_iload (q := 0) C dX11_windBest_64 rfl ?_
    refine g_iload_n (q := 3) C dX11_windBest_66 rfl rfl ?_
    refine g_icmp_le (tgt := 96) C dX11_windBest_67 (by decide) (fun c8 => ?_) (fun c8 => ?_)
    · have T := tt_t T c8
      refine g_sub [1, 2, 3, 4, 5, 6] rfl ?_
      exact k_f11_windBest_96 C x1 x2 x3 x4 x5 h hR hL4 hL12 hL23 T
    · have T := tt_f T c8
      refine g_iload (q := 0) C dX11_windBest_70 rfl ?_
      refine g_istore_n (L' := [(2, .int v7), (6, .int v7), (0, .ref 0), (1, .int x1), (3, .int x3), (4, .int x4), (5, .int x5)]) C dX11_windBest_72 rfl (by decide) rfl ?_
      refine g_aload_n (q := 2) C dX11_windBest_73 rfl rfl ?_
      refine g_getF (k := 10) (q := 54) C dX11_windBest_74 (hpC rfl rfl) rfl fl_X11_76 rfl rfl ?_
      refine g_iconst (v := 0) C dX11_windBest_77 (by decide) ?_
      refine g_iload_n (q := 4) C dX11_windBest_78 rfl rfl ?_
      obtain ⟨g9, T⟩ := tt_gd T
      obtain ⟨h10, eh10, T⟩ := tt_lt T
      refine g_iast C dX11_windBest_79 (hpC rfl rfl) rfl (inb_of rfl g9) eh10 ?_
      refine g_aload_n (q := 2) C dX11_windBest_80 rfl rfl ?_
      refine g_getF (k := 10) (q := 54) C dX11_windBest_81 (hpC rfl rfl) rfl fl_X11_76 rfl rfl ?_
      refine g_iconst (v := 1) C dX11_windBest_84 (by decide) ?_
      refine g_iload (q := 5) C dX11_windBest_85 rfl ?_
      obtain ⟨g11, T⟩ := tt_gd T
      obtain ⟨h12, eh12, T⟩ := tt_lt T
      refine g_iast C dX11_windBest_87 (hpC rfl rfl) rfl (inb_of rfl g11) eh12 ?_
      refine g_aload_n (q := 2) C dX11_windBest_88 rfl rfl ?_
      refine g_getF (k := 10) (q := 54) C dX11_windBest_89 (hpC rfl rfl) rfl fl_X11_76 rfl rfl ?_
      refine g_iconst (v := 2) C dX11_windBest_92 (by decide) ?_
      refine g_iload (q := 6) C dX11_windBest_93 rfl ?_
      obtain ⟨g13, T⟩ := tt_gd T
      obtain ⟨h14, eh14, T⟩ := tt_lt T
      refine g_iast C dX11_windBest_95 (hpC rfl rfl) rfl (inb_of rfl g13) eh14 ?_
      refine g_sub [2, 3, 0, 4, 5, 6] rfl ?_
      exact k_f11_windBest_96 C x1 v7 x3 x4 x5 h14 hR hL4 hL12 hL23 T

noncomputable def f11_windBest_23 (x1 : Int32) (x2 : Int32) (x3 : Int32) (x4 : Int32) (x5 : Int32) (h : Hp) : Option ((Int32 × Int32 × Hp) ⊕ ((Int32 × Int32 × Hp) ⊕ (Int32 × Hp))) := lp (fun z : Int32 × Int32 × Hp => f11_windBest_23_s x1 z.1 x3 x4 z.2.1 z.2.2) (x2, x5, h)
theorem k_f11_windBest_23 {x : Mx} {l : Launch} {post0 : Option Value → Hp → Prop} (C : Cx ΛC x l RX11 cX11_windBest rm_f11_windBest (some .int) 7 post0) {K : (Int32 × Int32 × Hp) ⊕ ((Int32 × Int32 × Hp) ⊕ (Int32 × Hp)) → Prop} (x1 : Int32) (x2 : Int32) (x3 : Int32) (x4 : Int32) (x5 : Int32) (h : Hp) (hR : ∀ (v : Int32) (h : Hp), K (.inr (.inr (v, h))) → post0 (some (.int v)) h) (hL4 : ∀ (x2 : Int32) (x3 : Int32) (h : Hp), K (.inr (.inl (x2, x3, h))) → G ΛC x 4 [(0, .ref 0), (1, .int x1), (2, .int x2), (3, .int x3)] [] h) (hL12 : ∀ (x2 : Int32) (x4 : Int32) (h : Hp), K (.inl (x2, x4, h)) → G ΛC x 12 [(0, .ref 0), (1, .int x1), (2, .int x2), (3, .int x3), (4, .int x4)] [] h) (T : Tt (f11_windBest_23 x1 x2 x3 x4 x5 h) K) : G ΛC x 23 [(0, .ref 0), (1, .int x1), (2, .int x2), (3, .int x3), (4, .int x4), (5, .int x5)] [] h :=
  lp_ind (f := fun z : Int32 × Int32 × Hp => f11_windBest_23_s x1 z.1 x3 x4 z.2.1 z.2.2) (P := fun z : Int32 × Int32 × Hp => G ΛC x 23 [(0, .ref 0), (1, .int x1), (2, .int z.1), (3, .int x3), (4, .int x4), (5, .int z.2.1)] [] z.2.2) (K := K) (fun z T => k_f11_windBest_23_s C (K := KS (fun z : Int32 × Int32 × Hp => G ΛC x 23 [(0, .ref 0), (1, .int x1), (2, .int z.1), (3, .int x3), (4, .int x4), (5, .int z.2.1)] [] z.2.2) K) x1 z.1 x3 x4 z.2.1 z.2.2 hR hL4 hL12 (fun _ _ _ q => q) T) (x2, x5, h) T
noncomputable def f11_windBest_12_s (x1 : Int32) (x2 : Int32) (x3 : Int32) (x4 : Int32) (h : Hp) : Option ((Int32 × Int32 × Hp) ⊕ ((Int32 × Int32 × Hp) ⊕ (Int32 × Hp))) :=
  if x1 < x3 + x4 then ((f11_windBest_108 x1 x2 x3 h).map (fun z => .inr (z))) else (f11_windBest_23 x1 x2 x3 x4 0 h)
set_option maxRecDepth 100000 in
set_option maxHeartbeats 4000000 in
theorem k_f11_windBest_12_s {x : Mx} {l : Launch} {post0 : Option Value → Hp → Prop} (C : Cx ΛC x l RX11 cX11_windBest rm_f11_windBest (some .int) 7 post0) {K : (Int32 × Int32 × Hp) ⊕ ((Int32 × Int32 × Hp) ⊕ (Int32 × Hp)) → Prop} (x1 : Int32) (x2 : Int32) (x3 : Int32) (x4 : Int32) (h : Hp) (hR : ∀ (v : Int32) (h : Hp), K (.inr (.inr (v, h))) → post0 (some (.int v)) h) (hL4 : ∀ (x2 : Int32) (x3 : Int32) (h : Hp), K (.inr (.inl (x2, x3, h))) → G ΛC x 4 [(0, .ref 0), (1, .int x1), (2, .int x2), (3, .int x3)] [] h) (hL12 : ∀ (x2 : Int32) (x4 : Int32) (h : Hp), K (.inl (x2, x4, h)) → G ΛC x 12 [(0, .ref 0), (1, .int x1), (2, .int x2), (3, .int x3), (4, .int x4)] [] h) (T : Tt (f11_windBest_12_s x1 x2 x3 x4 h) K) : G ΛC x 12 [(0, .ref 0), (1, .int x1), (2, .int x2), (3, .int x3), (4, .int x4)] [] h := by
  refine g_iload_n (q := 3) C dX11_windBest_12 rfl rfl ?_
  refine g_iload (q := 4) C dX11_windBest_13 rfl ?_
  refine g_iadd C dX11_windBest_15 ?_
  refine g_iload_n (q := 1) C dX11_windBest_16 rfl rfl ?_
  refine g_icmp_gt (tgt := 108) C dX11_windBest_17 (by decide) (fun c2 => ?_) (fun c2 => ?_)
  · have T := tt_t T c2
    refine g_sub [0, 1, 2, 3] rfl ?_
    exact k_f11_windBest_108 C x1 x2 x3 h hR hL4 (tt_map T)
  · have T := tt_f T c2
    refine g_iconst (v := 0) C dX11_windBest_20 (by decide) ?_
    refine g_istore (L' := [(5, .int 0), (0, .ref 0), (1, .int x1), (2, .int x2), (3, .int x3), (4, .int x4)]) C dX11_windBest_21 (by decide) rfl ?_
    refine g_sub [1, 2, 3, 4, 5, 0] rfl ?_
    exact k_f11_windBest_23 C x1 x2 x3 x4 0 h hR hL4 hL12 T

noncomputable def f11_windBest_12 (x1 : Int32) (x2 : Int32) (x3 : Int32) (x4 : Int32) (h : Hp) : Option ((Int32 × Int32 × Hp) ⊕ (Int32 × Hp)) := lp (fun z : Int32 × Int32 × Hp => f11_windBest_12_s x1 z.1 x3 z.2.1 z.2.2) (x2, x4, h)
theorem k_f11_windBest_12 {x : Mx} {l : Launch} {post0 : Option Value → Hp → Prop} (C : Cx ΛC x l RX11 cX11_windBest rm_f11_windBest (some .int) 7 post0) {K : (Int32 × Int32 × Hp) ⊕ (Int32 × Hp) → Prop} (x1 : Int32) (x2 : Int32) (x3 : Int32) (x4 : Int32) (h : Hp) (hR : ∀ (v : Int32) (h : Hp), K (.inr (v, h)) → post0 (some (.int v)) h) (hL4 : ∀ (x2 : Int32) (x3 : Int32) (h : Hp), K (.inl (x2, x3, h)) → G ΛC x 4 [(0, .ref 0), (1, .int x1), (2, .int x2), (3, .int x3)] [] h) (T : Tt (f11_windBest_12 x1 x2 x3 x4 h) K) : G ΛC x 12 [(0, .ref 0), (1, .int x1), (2, .int x2), (3, .int x3), (4, .int x4)] [] h :=
  lp_ind (f := fun z : Int32 × Int32 × Hp => f11_windBest_12_s x1 z.1 x3 z.2.1 z.2.2) (P := fun z : Int32 × Int32 × Hp => G ΛC x 12 [(0, .ref 0), (1, .int x1), (2, .int z.1), (3, .int x3), (4, .int z.2.1)] [] z.2.2) (K := K) (fun z T => k_f11_windBest_12_s C (K := KS (fun z : Int32 × Int32 × Hp => G ΛC x 12 [(0, .ref 0), (1, .int x1), (2, .int z.1), (3, .int x3), (4, .int z.2.1)] [] z.2.2) K) x1 z.1 x3 z.2.1 z.2.2 hR hL4 (fun _ _ _ q => q) T) (x2, x4, h) T
noncomputable def f11_windBest_4_s (x1 : Int32) (x2 : Int32) (x3 : Int32) (h : Hp) : Option ((Int32 × Int32 × Hp) ⊕ (Int32 × Hp)) :=
  if x1 < x3 then (some (.inr (x2, h))) else (f11_windBest_12 x1 x2 x3 0 h)
set_option maxRecDepth 100000 in
set_option maxHeartbeats 4000000 in
theorem k_f11_windBest_4_s {x : Mx} {l : Launch} {post0 : Option Value → Hp → Prop} (C : Cx ΛC x l RX11 cX11_windBest rm_f11_windBest (some .int) 7 post0) {K : (Int32 × Int32 × Hp) ⊕ (Int32 × Hp) → Prop} (x1 : Int32) (x2 : Int32) (x3 : Int32) (h : Hp) (hR : ∀ (v : Int32) (h : Hp), K (.inr (v, h)) → post0 (some (.int v)) h) (hL4 : ∀ (x2 : Int32) (x3 : Int32) (h : Hp), K (.inl (x2, x3, h)) → G ΛC x 4 [(0, .ref 0), (1, .int x1), (2, .int x2), (3, .int x3)] [] h) (T : Tt (f11_windBest_4_s x1 x2 x3 h) K) : G ΛC x 4 [(0, .ref 0), (1, .int x1), (2, .int x2), (3, .int x3)] [] h := by
  refine g_iload_n (q := 3) C dX11_windBest_4 rfl rfl ?_
  refine g_iload_n (q := 1) C dX11_windBest_5 rfl rfl ?_
  refine g_icmp_gt (tgt := 114) C dX11_windBest_6 (by decide) (fun c1 => ?_) (fun c1 => ?_)
  · have T := tt_t T c1
    refine g_iload_n (q := 2) C dX11_windBest_114 rfl rfl ?_
    exact g_iret C dX11_windBest_115 (hR _ _ (tt_some T))
  · have T := tt_f T c1
    refine g_iconst (v := 0) C dX11_windBest_9 (by decide) ?_
    refine g_istore (L' := [(4, .int 0), (0, .ref 0), (1, .int x1), (2, .int x2), (3, .int x3)]) C dX11_windBest_10 (by decide) rfl ?_
    refine g_sub [1, 2, 3, 4, 0] rfl ?_
    exact k_f11_windBest_12 C x1 x2 x3 0 h hR hL4 T

noncomputable def f11_windBest_4 (x1 : Int32) (x2 : Int32) (x3 : Int32) (h : Hp) : Option (Int32 × Hp) := lp (fun z : Int32 × Int32 × Hp => f11_windBest_4_s x1 z.1 z.2.1 z.2.2) (x2, x3, h)
theorem k_f11_windBest_4 {x : Mx} {l : Launch} {post0 : Option Value → Hp → Prop} (C : Cx ΛC x l RX11 cX11_windBest rm_f11_windBest (some .int) 7 post0) {K : Int32 × Hp → Prop} (x1 : Int32) (x2 : Int32) (x3 : Int32) (h : Hp) (hR : ∀ (v : Int32) (h : Hp), K (v, h) → post0 (some (.int v)) h) (T : Tt (f11_windBest_4 x1 x2 x3 h) K) : G ΛC x 4 [(0, .ref 0), (1, .int x1), (2, .int x2), (3, .int x3)] [] h :=
  lp_ind (f := fun z : Int32 × Int32 × Hp => f11_windBest_4_s x1 z.1 z.2.1 z.2.2) (P := fun z : Int32 × Int32 × Hp => G ΛC x 4 [(0, .ref 0), (1, .int x1), (2, .int z.1), (3, .int z.2.1)] [] z.2.2) (K := K) (fun z T => k_f11_windBest_4_s C (K := KS (fun z : Int32 × Int32 × Hp => G ΛC x 4 [(0, .ref 0), (1, .int x1), (2, .int z.1), (3, .int z.2.1)] [] z.2.2) K) x1 z.1 z.2.1 z.2.2 hR (fun _ _ _ q => q) T) (x2, x3, h) T
noncomputable def f11_windBest (x1 : Int32) (h : Hp) : Option (Int32 × Hp) :=
  f11_windBest_4 x1 (-1) 0 h
set_option maxRecDepth 100000 in
set_option maxHeartbeats 4000000 in
theorem k_f11_windBest {x : Mx} {l : Launch} {post0 : Option Value → Hp → Prop} (C : Cx ΛC x l RX11 cX11_windBest rm_f11_windBest (some .int) 7 post0) {K : Int32 × Hp → Prop} (x1 : Int32) (h : Hp) (hR : ∀ (v : Int32) (h : Hp), K (v, h) → post0 (some (.int v)) h) (T : Tt (f11_windBest x1 h) K) : G ΛC x 0 [(0, .ref 0), (1, .int x1)] [] h := by
  refine g_iconst (v := (-1)) C dX11_windBest_0 (by decide) ?_
  refine g_istore_n (L' := [(2, .int (-1)), (0, .ref 0), (1, .int x1)]) C dX11_windBest_1 rfl (by decide) rfl ?_
  refine g_iconst (v := 0) C dX11_windBest_2 (by decide) ?_
  refine g_istore_n (L' := [(3, .int 0), (2, .int (-1)), (0, .ref 0), (1, .int x1)]) C dX11_windBest_3 rfl (by decide) rfl ?_
  refine g_sub [2, 3, 1, 0] rfl ?_
  exact k_f11_windBest_4 C x1 (-1) 0 h hR T

theorem ok_f11_windBest {l : Launch} {K : Int32 × Hp → Prop} (x1 : Int32) (h : Hp) (T : Tt (f11_windBest x1 h) K) : Ok ΛC l yX11_windBest cX11_windBest 7 (some .int) rm_f11_windBest [.ref 0, .int x1] h (PIw K) :=
  Ok.of RX11 rfl (by decide) ⟨rfl, rfl⟩ (Nat.le_of_ble_eq_true rfl) (fun x C => k_f11_windBest C x1 h (fun v _ q => ⟨v, rfl, q⟩) T)

abbrev rm_f11_winding : Room := { frames := 7, cells := 0, slots := 0, locals := 173 }
noncomputable def f11_winding_78_s (x1 : Int32) (x4 : Int32) (x5 : Int32) (h : Hp) : Option ((Int32 × Int32 × Hp) ⊕ (Int32 × Hp)) :=
  if h.1 6 1 ≤ x5 then (some (.inr (x4, h))) else (gd (inb x5 6) <| (f0_copyOf 51 (8 + 2 * ix x5) h).bind fun h14 => (f11_isDampAsItGoes h14).bind fun r15 => (f11_laughterOnTrial x1 r15 h14).bind fun (r16, h17) => lt (x4 + r16) fun v18 => some (.inl (v18, x5 + 1, h17)))
set_option maxRecDepth 100000 in
set_option maxHeartbeats 4000000 in
theorem k_f11_winding_78_s {x : Mx} {l : Launch} {post0 : Option Value → Hp → Prop} (C : Cx ΛC x l RX11 cX11_winding rm_f11_winding (some .int) 6 post0) {K : (Int32 × Int32 × Hp) ⊕ (Int32 × Hp) → Prop} (x1 : Int32) (x4 : Int32) (x5 : Int32) (h : Hp) (hR : ∀ (v : Int32) (h : Hp), K (.inr (v, h)) → post0 (some (.int v)) h) (hL78 : ∀ (x4 : Int32) (x5 : Int32) (h : Hp), K (.inl (x4, x5, h)) → G ΛC x 78 [(0, .ref 0), (1, .int x1), (4, .int x4), (5, .int x5)] [] h) (T : Tt (f11_winding_78_s x1 x4 x5 h) K) : G ΛC x 78 [(0, .ref 0), (1, .int x1), (4, .int x4), (5, .int x5)] [] h := by
  refine g_iload (q := 3) C dX11_winding_78 rfl ?_
  refine g_aload_n (q := 0) C dX11_winding_80 rfl rfl ?_
  refine g_getF (k := 2) (q := 6) C dX11_winding_81 (hpC rfl rfl) rfl fl_X11_30 rfl rfl ?_
  refine g_getI (k := 1) C dX11_winding_84 (hpC rfl rfl) rfl fl_X11_263 rfl ?_
  refine g_icmp_ge (tgt := 127) C dX11_winding_87 (by decide) (fun c12 => ?_) (fun c12 => ?_)
  · have T := tt_t T c12
    refine g_iload (q := 2) C dX11_winding_127 rfl ?_
    exact g_iret C dX11_winding_129 (hR _ _ (tt_some T))
  · have T := tt_f T c12
    refine g_aload_n (q := 0) C dX11_winding_90 rfl rfl ?_
    refine g_getF (k := 8) (q := 51) C dX11_winding_91 (hpC rfl rfl) rfl fl_X11_68 rfl rfl ?_
    refine g_aload_n (q := 0) C dX11_winding_94 rfl rfl ?_
    refine g_getF (k := 2) (q := 6) C dX11_winding_95 (hpC rfl rfl) rfl fl_X11_30 rfl rfl ?_
    refine g_getF (k := 0) (q := 7) C dX11_winding_98 (hpC rfl rfl) rfl fl_X11_140 rfl rfl ?_
    refine g_iload (q := 3) C dX11_winding_101 rfl ?_
    obtain ⟨g13, T⟩ := tt_gd T
    refine g_aald (q := 8 + 2 * ix x5) C dX11_winding_103 (hpC rfl rfl) rfl (inb_of rfl g13) rfl ?_
    refine g_callV (p := 51) (As := [.ref (8 + 2 * ix x5)]) C dX11_winding_104 ml_X11_223 yv_f0_copyOf ⟨rfl, rfl⟩ ⟨Nat.le_of_ble_eq_true rfl, Nat.le_of_ble_eq_true rfl⟩ (hpC rfl rfl) rfl rfl rfl (Nat.le_of_ble_eq_true rfl) (ok_f0_copyOf 51 (8 + 2 * ix x5) rfl (kboxC (a := 7) rfl g13) h (tt_bind T)) ?_
    rintro _ h14 ⟨rfl, T⟩
    show G ΛC x 107 [(0, .ref 0), (1, .int x1), (4, .int x4), (5, .int x5)] [] h14
    refine g_iload (q := 2) C dX11_winding_107 rfl ?_
    refine g_aload_n (q := 0) C dX11_winding_109 rfl rfl ?_
    refine g_iload_n (q := 1) C dX11_winding_110 rfl rfl ?_
    refine g_aload_n (q := 0) C dX11_winding_111 rfl rfl ?_
    refine g_callV (p := 0) (As := []) C dX11_winding_112 ml_X11_279 yv_f11_isDampAsItGoes ⟨rfl, rfl⟩ ⟨Nat.le_of_ble_eq_true rfl, Nat.le_of_ble_eq_true rfl⟩ (hpC rfl rfl) rfl rfl rfl (Nat.le_of_ble_eq_true rfl) (ok_f11_isDampAsItGoes h14 (tt_bind T)) ?_
    rintro _ _ ⟨r15, rfl, rfl, T⟩
    show G ΛC x 115 [(0, .ref 0), (1, .int x1), (4, .int x4), (5, .int x5)] [.int r15, .int x1, .ref 0, .int x4] h14
    refine g_callV (p := 0) (As := [.int x1, .int r15]) C dX11_winding_115 ml_X11_292 yv_f11_laughterOnTrial ⟨rfl, rfl⟩ ⟨Nat.le_of_ble_eq_true rfl, Nat.le_of_ble_eq_true rfl⟩ (hpC rfl rfl) rfl rfl rfl (Nat.le_of_ble_eq_true rfl) (ok_f11_laughterOnTrial x1 r15 h14 (tt_bind T)) ?_
    rintro _ h17 ⟨r16, rfl, T⟩
    show G ΛC x 118 [(0, .ref 0), (1, .int x1), (4, .int x4), (5, .int x5)] [.int r16, .int x4] h17
    refine g_iadd C dX11_winding_118 ?_
    obtain ⟨v18, ev18, T⟩ := tt_lt T
    refine g_nameI ev18 ?_
    refine g_istore (L' := [(4, .int v18), (0, .ref 0), (1, .int x1), (5, .int x5)]) C dX11_winding_119 (by decide) rfl ?_
    refine g_iinc (v := x5 + 1) (q := 3) (L' := [(5, .int (x5 + 1)), (4, .int v18), (0, .ref 0), (1, .int x1)]) C dX11_winding_121 rfl (by first | rfl | exact congrArg _ (by decide)) (by decide) rfl ?_
    refine g_goto (tgt := 78) C dX11_winding_124 (by decide) ?_
    refine g_sub [2, 3, 1, 0] rfl ?_
    exact hL78 _ _ _ (tt_some T)

noncomputable def f11_winding_78 (x1 : Int32) (x4 : Int32) (x5 : Int32) (h : Hp) : Option (Int32 × Hp) := lp (fun z : Int32 × Int32 × Hp => f11_winding_78_s x1 z.1 z.2.1 z.2.2) (x4, x5, h)
theorem k_f11_winding_78 {x : Mx} {l : Launch} {post0 : Option Value → Hp → Prop} (C : Cx ΛC x l RX11 cX11_winding rm_f11_winding (some .int) 6 post0) {K : Int32 × Hp → Prop} (x1 : Int32) (x4 : Int32) (x5 : Int32) (h : Hp) (hR : ∀ (v : Int32) (h : Hp), K (v, h) → post0 (some (.int v)) h) (T : Tt (f11_winding_78 x1 x4 x5 h) K) : G ΛC x 78 [(0, .ref 0), (1, .int x1), (4, .int x4), (5, .int x5)] [] h :=
  lp_ind (f := fun z : Int32 × Int32 × Hp => f11_winding_78_s x1 z.1 z.2.1 z.2.2) (P := fun z : Int32 × Int32 × Hp => G ΛC x 78 [(0, .ref 0), (1, .int x1), (4, .int z.1), (5, .int z.2.1)] [] z.2.2) (K := K) (fun z T => k_f11_winding_78_s C (K := KS (fun z : Int32 × Int32 × Hp => G ΛC x 78 [(0, .ref 0), (1, .int x1), (4, .int z.1), (5, .int z.2.1)] [] z.2.2) K) x1 z.1 z.2.1 z.2.2 hR (fun _ _ _ q => q) T) (x4, x5, h) T
noncomputable def f11_winding_50 (x1 : Int32) (x2 : Int32) (x3 : Int32) (h : Hp) : Option (Int32 × Hp) :=
  (f11_weighTurns x1 x2 h).bind fun h8 => (f11_windBest x2 h8).bind fun (r9, h10) => if 3 ≤ x3 then (f11_winding_78 x1 r9 3 h10) else (gd (inb x3 3) <| some (h10.1 54 (ix x3), h10))
set_option maxRecDepth 100000 in
set_option maxHeartbeats 4000000 in
theorem k_f11_winding_50 {x : Mx} {l : Launch} {post0 : Option Value → Hp → Prop} (C : Cx ΛC x l RX11 cX11_winding rm_f11_winding (some .int) 6 post0) {K : Int32 × Hp → Prop} (x1 : Int32) (x2 : Int32) (x3 : Int32) (h : Hp) (hR : ∀ (v : Int32) (h : Hp), K (v, h) → post0 (some (.int v)) h) (T : Tt (f11_winding_50 x1 x2 x3 h) K) : G ΛC x 50 [(0, .ref 0), (1, .int x1), (2, .int x2), (3, .int x3)] [] h := by
  refine g_aload_n (q := 0) C dX11_winding_50 rfl rfl ?_
  refine g_iload_n (q := 1) C dX11_winding_51 rfl rfl ?_
  refine g_iload_n (q := 2) C dX11_winding_52 rfl rfl ?_
  refine g_callV (p := 0) (As := [.int x1, .int x2]) C dX11_winding_53 ml_X11_285 yv_f11_weighTurns ⟨rfl, rfl⟩ ⟨Nat.le_of_ble_eq_true rfl, Nat.le_of_ble_eq_true rfl⟩ (hpC rfl rfl) rfl rfl rfl (Nat.le_of_ble_eq_true rfl) (ok_f11_weighTurns x1 x2 h (tt_bind T)) ?_
  rintro _ h8 ⟨rfl, T⟩
  show G ΛC x 56 [(0, .ref 0), (1, .int x1), (2, .int x2), (3, .int x3)] [] h8
  refine g_aload_n (q := 0) C dX11_winding_56 rfl rfl ?_
  refine g_iload_n (q := 2) C dX11_winding_57 rfl rfl ?_
  refine g_callV (p := 0) (As := [.int x2]) C dX11_winding_58 ml_X11_289 yv_f11_windBest ⟨rfl, rfl⟩ ⟨Nat.le_of_ble_eq_true rfl, Nat.le_of_ble_eq_true rfl⟩ (hpC rfl rfl) rfl rfl rfl (Nat.le_of_ble_eq_true rfl) (ok_f11_windBest x2 h8 (tt_bind T)) ?_
  rintro _ h10 ⟨r9, rfl, T⟩
  show G ΛC x 61 [(0, .ref 0), (1, .int x1), (2, .int x2), (3, .int x3)] [.int r9] h10
  refine g_istore (L' := [(4, .int r9), (0, .ref 0), (1, .int x1), (2, .int x2), (3, .int x3)]) C dX11_winding_61 (by decide) rfl ?_
  refine g_iload_n (q := 4) C dX11_winding_63 rfl rfl ?_
  refine g_iconst (v := 3) C dX11_winding_64 (by decide) ?_
  refine g_icmp_ge (tgt := 75) C dX11_winding_65 (by decide) (fun c11 => ?_) (fun c11 => ?_)
  · have T := tt_t T c11
    refine g_iconst (v := 3) C dX11_winding_75 (by decide) ?_
    refine g_istore (L' := [(5, .int 3), (4, .int r9), (0, .ref 0), (1, .int x1), (2, .int x2), (3, .int x3)]) C dX11_winding_76 (by decide) rfl ?_
    refine g_sub [2, 3, 1, 0] rfl ?_
    exact k_f11_winding_78 C x1 r9 3 h10 hR T
  · have T := tt_f T c11
    refine g_aload_n (q := 1) C dX11_winding_68 rfl rfl ?_
    refine g_getF (k := 10) (q := 54) C dX11_winding_69 (hpC rfl rfl) rfl fl_X11_76 rfl rfl ?_
    refine g_iload_n (q := 4) C dX11_winding_72 rfl rfl ?_
    obtain ⟨g19, T⟩ := tt_gd T
    refine g_iald C dX11_winding_73 (hpC rfl rfl) rfl (inb_of rfl g19) ?_
    exact g_iret C dX11_winding_74 (hR _ _ (tt_some T))

noncomputable def f11_winding (x1 : Int32) (x2 : Int32) (x3 : Int32) (h : Hp) : Option (Int32 × Hp) :=
  (f11_isWithin x1 1 20).bind fun r1 => if r1 = 0 then (some ((-1), h)) else ((f11_isWithin x2 0 9).bind fun r3 => if r3 = 0 then (some ((-1), h)) else ((f11_isWithin x3 0 3).bind fun r5 => if r5 = 0 then (some ((-1), h)) else (if 3 ≤ x3 then (f11_winding_50 x1 x2 x3 h) else (if x3 < h.1 6 1 then (f11_winding_50 x1 x2 x3 h) else (some ((-2), h))))))
set_option maxRecDepth 100000 in
set_option maxHeartbeats 4000000 in
theorem k_f11_winding {x : Mx} {l : Launch} {post0 : Option Value → Hp → Prop} (C : Cx ΛC x l RX11 cX11_winding rm_f11_winding (some .int) 6 post0) {K : Int32 × Hp → Prop} (x1 : Int32) (x2 : Int32) (x3 : Int32) (h : Hp) (hR : ∀ (v : Int32) (h : Hp), K (v, h) → post0 (some (.int v)) h) (T : Tt (f11_winding x1 x2 x3 h) K) : G ΛC x 0 [(0, .ref 0), (1, .int x1), (2, .int x2), (3, .int x3)] [] h := by
  refine g_iload_n (q := 1) C dX11_winding_0 rfl rfl ?_
  refine g_iconst (v := 1) C dX11_winding_1 (by decide) ?_
  refine g_bipush (v := 20) C dX11_winding_2 (by decide) ?_
  refine g_callS (As := [.int x1, .int 1, .int 20]) C dX11_winding_4 ml_X11_170 ys_f11_isWithin ⟨rfl, rfl⟩ ⟨Nat.le_of_ble_eq_true rfl, Nat.le_of_ble_eq_true rfl⟩ rfl rfl (Nat.le_of_ble_eq_true rfl) (ok_f11_isWithin x1 1 20 h (tt_bind T)) ?_
  rintro _ _ ⟨r1, rfl, rfl, T⟩
  show G ΛC x 7 [(0, .ref 0), (1, .int x1), (2, .int x2), (3, .int x3)] [.int r1] h
  refine g_if_eq (tgt := 29) C dX11_winding_7 (by decide) (fun c2 => ?_) (fun c2 => ?_)
  · have T := tt_t T c2
    refine g_iconst (v := (-1)) C dX11_winding_29 (by decide) ?_
    exact g_iret C dX11_winding_30 (hR _ _ (tt_some T))
  · have T := tt_f T c2
    refine g_iload_n (q := 2) C dX11_winding_10 rfl rfl ?_
    refine g_iconst (v := 0) C dX11_winding_11 (by decide) ?_
    refine g_bipush (v := 9) C dX11_winding_12 (by decide) ?_
    refine g_callS (As := [.int x2, .int 0, .int 9]) C dX11_winding_14 ml_X11_170 ys_f11_isWithin ⟨rfl, rfl⟩ ⟨Nat.le_of_ble_eq_true rfl, Nat.le_of_ble_eq_true rfl⟩ rfl rfl (Nat.le_of_ble_eq_true rfl) (ok_f11_isWithin x2 0 9 h (tt_bind T)) ?_
    rintro _ _ ⟨r3, rfl, rfl, T⟩
    show G ΛC x 17 [(0, .ref 0), (1, .int x1), (2, .int x2), (3, .int x3)] [.int r3] h
    refine g_if_eq (tgt := 29) C dX11_winding_17 (by decide) (fun c4 => ?_) (fun c4 => ?_)
    · have T := tt_t T c4
      refine g_iconst (v := (-1)) C dX11_winding_29 (by decide) ?_
      exact g_iret C dX11_winding_30 (hR _ _ (tt_some T))
    · have T := tt_f T c4
      refine g_iload_n (q := 3) C dX11_winding_20 rfl rfl ?_
      refine g_iconst (v := 0) C dX11_winding_21 (by decide) ?_
      refine g_iconst (v := 3) C dX11_winding_22 (by decide) ?_
      refine g_callS (As := [.int x3, .int 0, .int 3]) C dX11_winding_23 ml_X11_170 ys_f11_isWithin ⟨rfl, rfl⟩ ⟨Nat.le_of_ble_eq_true rfl, Nat.le_of_ble_eq_true rfl⟩ rfl rfl (Nat.le_of_ble_eq_true rfl) (ok_f11_isWithin x3 0 3 h (tt_bind T)) ?_
      rintro _ _ ⟨r5, rfl, rfl, T⟩
      show G ΛC x 26 [(0, .ref 0), (1, .int x1), (2, .int x2), (3, .int x3)] [.int r5] h
      refine g_if_ne (tgt := 31) C dX11_winding_26 (by decide) (fun c6 => ?_) (fun c6 => ?_)
      · have T := tt_f T c6
        refine g_iload_n (q := 3) C dX11_winding_31 rfl rfl ?_
        refine g_iconst (v := 3) C dX11_winding_32 (by decide) ?_
        refine g_icmp_ge (tgt := 50) C dX11_winding_33 (by decide) (fun c7 => ?_) (fun c7 => ?_)
        · have T := tt_t T c7
          exact k_f11_winding_50 C x1 x2 x3 h hR T
        · have T := tt_f T c7
          refine g_iload_n (q := 3) C dX11_winding_36 rfl rfl ?_
          refine g_aload_n (q := 0) C dX11_winding_37 rfl rfl ?_
          refine g_getF (k := 2) (q := 6) C dX11_winding_38 (hpC rfl rfl) rfl fl_X11_30 rfl rfl ?_
          refine g_getI (k := 1) C dX11_winding_41 (hpC rfl rfl) rfl fl_X11_263 rfl ?_
          refine g_icmp_lt (tgt := 50) C dX11_winding_44 (by decide) (fun c20 => ?_) (fun c20 => ?_)
          · have T := tt_t T c20
            exact k_f11_winding_50 C x1 x2 x3 h hR T
          · have T := tt_f T c20
            refine g_bipush (v := (-2)) C dX11_winding_47 (by decide) ?_
            exact g_iret C dX11_winding_49 (hR _ _ (tt_some T))
      · have T := tt_t T c6
        refine g_iconst (v := (-1)) C dX11_winding_29 (by decide) ?_
        exact g_iret C dX11_winding_30 (hR _ _ (tt_some T))

theorem ok_f11_winding {l : Launch} {K : Int32 × Hp → Prop} (x1 : Int32) (x2 : Int32) (x3 : Int32) (h : Hp) (T : Tt (f11_winding x1 x2 x3 h) K) : Ok ΛC l yX11_winding cX11_winding 6 (some .int) rm_f11_winding [.ref 0, .int x1, .int x2, .int x3] h (PIw K) :=
  Ok.of RX11 rfl (by decide) ⟨rfl, rfl⟩ (Nat.le_of_ble_eq_true rfl) (fun x C => k_f11_winding C x1 x2 x3 h (fun v _ q => ⟨v, rfl, q⟩) T)

abbrev rm_f11_guestsWho : Room := { frames := 0, cells := 0, slots := 0, locals := 0 }
noncomputable def f11_guestsWho_52 (x1 : Int32) (x2 : Int32) (x3 : Int32) (x4 : Int32) (h : Hp) : Option ((Int32 × Int32) ⊕ (Int32)) :=
  some (.inl (x3, x4 + 1))
set_option maxRecDepth 100000 in
set_option maxHeartbeats 4000000 in
theorem k_f11_guestsWho_52 {x : Mx} {l : Launch} {post0 : Option Value → Hp → Prop} (C : Cx ΛC x l RX11 cX11_guestsWho rm_f11_guestsWho (some .int) 5 post0) {K : (Int32 × Int32) ⊕ (Int32) → Prop} (x1 : Int32) (x2 : Int32) (x3 : Int32) (x4 : Int32) (h : Hp) (hR : ∀ v : Int32, K (.inr v) → post0 (some (.int v)) h) (hL5 : ∀ (x3 : Int32) (x4 : Int32), K (.inl (x3, x4)) → G ΛC x 5 [(0, .ref 0), (1, .int x1), (2, .int x2), (3, .int x3), (4, .int x4)] [] h) (T : Tt (f11_guestsWho_52 x1 x2 x3 x4 h) K) : G ΛC x 52 [(0, .ref 0), (1, .int x1), (2, .int x2), (3, .int x3), (4, .int x4)] [] h := by
  refine g_iinc (v := x4 + 1) (q := 4) (L' := [(4, .int (x4 + 1)), (0, .ref 0), (1, .int x1), (2, .int x2), (3, .int x3)]) C dX11_guestsWho_52 rfl (by first | rfl | exact congrArg _ (by decide)) (by decide) rfl ?_
  refine g_goto (tgt := 5) C dX11_guestsWho_55 (by decide) ?_
  refine g_sub [1, 2, 3, 4, 0] rfl ?_
  exact hL5 _ _ (tt_some T)

noncomputable def f11_guestsWho_5_s (x1 : Int32) (x2 : Int32) (x3 : Int32) (x4 : Int32) (h : Hp) : Option ((Int32 × Int32) ⊕ (Int32)) :=
  (h.2.2 0 11).bind fun p1 => gd (decide (kdC p1 = 10)) <| if h.1 p1 8 ≤ x4 then (some (.inr x3)) else ((h.2.2 0 11).bind fun p4 => gd (decide (kdC p4 = 10)) <| gd (inb x4 5) <| if h.1 (p4 + 21) (ix x4) < x1 then (f11_guestsWho_52 x1 x2 x3 x4 h) else ((h.2.2 0 11).bind fun p8 => gd (decide (kdC p8 = 10)) <| gd (inb x4 5) <| if h.1 (p8 + 22) (ix x4) < x2 then (f11_guestsWho_52 x1 x2 x3 x4 h) else (lt (x3 ||| (1 <<< (x4 &&& 31))) fun v12 => f11_guestsWho_52 x1 x2 v12 x4 h)))
set_option maxRecDepth 100000 in
set_option maxHeartbeats 4000000 in
theorem k_f11_guestsWho_5_s {x : Mx} {l : Launch} {post0 : Option Value → Hp → Prop} (C : Cx ΛC x l RX11 cX11_guestsWho rm_f11_guestsWho (some .int) 5 post0) {K : (Int32 × Int32) ⊕ (Int32) → Prop} (x1 : Int32) (x2 : Int32) (x3 : Int32) (x4 : Int32) (h : Hp) (hR : ∀ v : Int32, K (.inr v) → post0 (some (.int v)) h) (hL5 : ∀ (x3 : Int32) (x4 : Int32), K (.inl (x3, x4)) → G ΛC x 5 [(0, .ref 0), (1, .int x1), (2, .int x2), (3, .int x3), (4, .int x4)] [] h) (T : Tt (f11_guestsWho_5_s x1 x2 x3 x4 h) K) : G ΛC x 5 [(0, .ref 0), (1, .int x1), (2, .int x2), (3, .int x3), (4, .int x4)] [] h := by
  refine g_iload (q := 4) C dX11_guestsWho_5 rfl ?_
  refine g_aload_n (q := 0) C dX11_guestsWho_7 rfl rfl ?_
  obtain ⟨p1, ep1, T⟩ := tt_bind T
  obtain ⟨g2, T⟩ := tt_gd T
  have kp1 : kdC p1 = 10 := of_decide_eq_true g2
  refine g_getD (k := 11) (q := p1) C dX11_guestsWho_8 (hpC rfl rfl) rfl fl_X11_82 rfl ep1 ?_
  refine g_getI (k := 8) C dX11_guestsWho_11 (hpC kp1 rfl) kp1 fl_X11_180 rfl ?_
  refine g_icmp_ge (tgt := 58) C dX11_guestsWho_14 (by decide) (fun c3 => ?_) (fun c3 => ?_)
  · have T := tt_t T c3
    refine g_iload_n (q := 3) C dX11_guestsWho_58 rfl rfl ?_
    exact g_iret C dX11_guestsWho_59 (hR _ (tt_some T))
  · have T := tt_f T c3
    refine g_aload_n (q := 0) C dX11_guestsWho_17 rfl rfl ?_
    obtain ⟨p4, ep4, T⟩ := tt_bind T
    obtain ⟨g5, T⟩ := tt_gd T
    have kp4 : kdC p4 = 10 := of_decide_eq_true g5
    refine g_getD (k := 11) (q := p4) C dX11_guestsWho_18 (hpC rfl rfl) rfl fl_X11_82 rfl ep4 ?_
    refine g_getF (k := 3) (q := p4 + 21) C dX11_guestsWho_21 (hpC kp4 rfl) kp4 fl_X11_183 rfl rfl ?_
    refine g_iload (q := 4) C dX11_guestsWho_24 rfl ?_
    obtain ⟨g6, T⟩ := tt_gd T
    refine g_iald C dX11_guestsWho_26 (hpC (kf_10_3 kp4) rfl) (kf_10_3 kp4) (inb_of (lf_10_3 kp4) g6) ?_
    refine g_iload_n (q := 1) C dX11_guestsWho_27 rfl rfl ?_
    refine g_icmp_lt (tgt := 52) C dX11_guestsWho_28 (by decide) (fun c7 => ?_) (fun c7 => ?_)
    · have T := tt_t T c7
      exact k_f11_guestsWho_52 C x1 x2 x3 x4 h hR hL5 T
    · have T := tt_f T c7
      refine g_aload_n (q := 0) C dX11_guestsWho_31 rfl rfl ?_
      obtain ⟨p8, ep8, T⟩ := tt_bind T
      obtain ⟨g9, T⟩ := tt_gd T
      have kp8 : kdC p8 = 10 := of_decide_eq_true g9
      refine g_getD (k := 11) (q := p8) C dX11_guestsWho_32 (hpC rfl rfl) rfl fl_X11_82 rfl ep8 ?_
      refine g_getF (k := 4) (q := p8 + 22) C dX11_guestsWho_35 (hpC kp8 rfl) kp8 fl_X11_186 rfl rfl ?_
      refine g_iload (q := 4) C dX11_guestsWho_38 rfl ?_
      obtain ⟨g10, T⟩ := tt_gd T
      refine g_iald C dX11_guestsWho_40 (hpC (kf_10_4 kp8) rfl) (kf_10_4 kp8) (inb_of (lf_10_4 kp8) g10) ?_
      refine g_iload_n (q := 2) C dX11_guestsWho_41 rfl rfl ?_
      refine g_icmp_lt (tgt := 52) C dX11_guestsWho_42 (by decide) (fun c11 => ?_) (fun c11 => ?_)
      · have T := tt_t T c11
        exact k_f11_guestsWho_52 C x1 x2 x3 x4 h hR hL5 T
      · have T := tt_f T c11
        refine g_iload_n (q := 3) C dX11_guestsWho_45 rfl rfl ?_
        refine g_iconst (v := 1) C dX11_guestsWho_46 (by decide) ?_
        refine g_iload (q := 4) C dX11_guestsWho_47 rfl ?_
        refine g_ishl C dX11_guestsWho_49 ?_
        refine g_ior C dX11_guestsWho_50 ?_
        obtain ⟨v12, ev12, T⟩ := tt_lt T
        refine g_nameI ev12 ?_
        refine g_istore_n (L' := [(3, .int v12), (0, .ref 0), (1, .int x1), (2, .int x2), (4, .int x4)]) C dX11_guestsWho_51 rfl (by decide) rfl ?_
        refine g_sub [1, 2, 3, 0, 4] rfl ?_
        exact k_f11_guestsWho_52 C x1 x2 v12 x4 h hR hL5 T

noncomputable def f11_guestsWho_5 (x1 : Int32) (x2 : Int32) (x3 : Int32) (x4 : Int32) (h : Hp) : Option (Int32) := lp (fun z : Int32 × Int32 => f11_guestsWho_5_s x1 x2 z.1 z.2 h) (x3, x4)
theorem k_f11_guestsWho_5 {x : Mx} {l : Launch} {post0 : Option Value → Hp → Prop} (C : Cx ΛC x l RX11 cX11_guestsWho rm_f11_guestsWho (some .int) 5 post0) {K : Int32 → Prop} (x1 : Int32) (x2 : Int32) (x3 : Int32) (x4 : Int32) (h : Hp) (hR : ∀ v : Int32, K v → post0 (some (.int v)) h) (T : Tt (f11_guestsWho_5 x1 x2 x3 x4 h) K) : G ΛC x 5 [(0, .ref 0), (1, .int x1), (2, .int x2), (3, .int x3), (4, .int x4)] [] h :=
  lp_ind (f := fun z : Int32 × Int32 => f11_guestsWho_5_s x1 x2 z.1 z.2 h) (P := fun z : Int32 × Int32 => G ΛC x 5 [(0, .ref 0), (1, .int x1), (2, .int x2), (3, .int z.1), (4, .int z.2)] [] h) (K := K) (fun z T => k_f11_guestsWho_5_s C (K := KS (fun z : Int32 × Int32 => G ΛC x 5 [(0, .ref 0), (1, .int x1), (2, .int x2), (3, .int z.1), (4, .int z.2)] [] h) K) x1 x2 z.1 z.2 h hR (fun _ _ q => q) T) (x3, x4) T
noncomputable def f11_guestsWho (x1 : Int32) (x2 : Int32) (h : Hp) : Option (Int32) :=
  f11_guestsWho_5 x1 x2 0 0 h
set_option maxRecDepth 100000 in
set_option maxHeartbeats 4000000 in
theorem k_f11_guestsWho {x : Mx} {l : Launch} {post0 : Option Value → Hp → Prop} (C : Cx ΛC x l RX11 cX11_guestsWho rm_f11_guestsWho (some .int) 5 post0) {K : Int32 → Prop} (x1 : Int32) (x2 : Int32) (h : Hp) (hR : ∀ v : Int32, K v → post0 (some (.int v)) h) (T : Tt (f11_guestsWho x1 x2 h) K) : G ΛC x 0 [(0, .ref 0), (1, .int x1), (2, .int x2)] [] h := by
  refine g_iconst (v := 0) C dX11_guestsWho_0 (by decide) ?_
  refine g_istore_n (L' := [(3, .int 0), (0, .ref 0), (1, .int x1), (2, .int x2)]) C dX11_guestsWho_1 rfl (by decide) rfl ?_
  refine g_iconst (v := 0) C dX11_guestsWho_2 (by decide) ?_
  refine g_istore (L' := [(4, .int 0), (3, .int 0), (0, .ref 0), (1, .int x1), (2, .int x2)]) C dX11_guestsWho_3 (by decide) rfl ?_
  refine g_sub [2, 3, 4, 1, 0] rfl ?_
  exact k_f11_guestsWho_5 C x1 x2 0 0 h hR T

theorem ok_f11_guestsWho {l : Launch} {K : Int32 → Prop} (x1 : Int32) (x2 : Int32) (h : Hp) (T : Tt (f11_guestsWho x1 x2 h) K) : Ok ΛC l yX11_guestsWho cX11_guestsWho 5 (some .int) rm_f11_guestsWho [.ref 0, .int x1, .int x2] h (PIs K h) :=
  Ok.of RX11 rfl (by decide) ⟨rfl, rfl⟩ (Nat.le_of_ble_eq_true rfl) (fun x C => k_f11_guestsWho C x1 x2 h (fun v q => ⟨v, rfl, rfl, q⟩) T)

abbrev rm_f11_laughBack : Room := { frames := 1, cells := 0, slots := 0, locals := 26 }
noncomputable def f11_laughBack (x1 : Int32) (h : Hp) : Option (Int32) :=
  (f11_isBox x1 h).bind fun r1 => if r1 = 0 then (some (-1)) else ((f11_stepsOfKin 0 x1 h).bind fun r3 => if 0 ≤ r3 then (gd (inb x1 6) <| (f11_guestsWho (8 * (h.1 (8 + 2 * ix x1) 2)) r3 h).bind fun r6 => some r6) else (some 0))
set_option maxRecDepth 100000 in
set_option maxHeartbeats 4000000 in
theorem k_f11_laughBack {x : Mx} {l : Launch} {post0 : Option Value → Hp → Prop} (C : Cx ΛC x l RX11 cX11_laughBack rm_f11_laughBack (some .int) 3 post0) {K : Int32 → Prop} (x1 : Int32) (h : Hp) (hR : ∀ v : Int32, K v → post0 (some (.int v)) h) (T : Tt (f11_laughBack x1 h) K) : G ΛC x 0 [(0, .ref 0), (1, .int x1)] [] h := by
  refine g_aload_n (q := 0) C dX11_laughBack_0 rfl rfl ?_
  refine g_iload_n (q := 1) C dX11_laughBack_1 rfl rfl ?_
  refine g_callV (p := 0) (As := [.int x1]) C dX11_laughBack_2 ml_X11_129 yv_f11_isBox ⟨rfl, rfl⟩ ⟨Nat.le_of_ble_eq_true rfl, Nat.le_of_ble_eq_true rfl⟩ (hpC rfl rfl) rfl rfl rfl (Nat.le_of_ble_eq_true rfl) (ok_f11_isBox x1 h (tt_bind T)) ?_
  rintro _ _ ⟨r1, rfl, rfl, T⟩
  show G ΛC x 5 [(0, .ref 0), (1, .int x1)] [.int r1] h
  refine g_if_ne (tgt := 10) C dX11_laughBack_5 (by decide) (fun c2 => ?_) (fun c2 => ?_)
  · have T := tt_f T c2
    refine g_aload_n (q := 0) C dX11_laughBack_10 rfl rfl ?_
    refine g_iconst (v := 0) C dX11_laughBack_11 (by decide) ?_
    refine g_iload_n (q := 1) C dX11_laughBack_12 rfl rfl ?_
    refine g_callV (p := 0) (As := [.int 0, .int x1]) C dX11_laughBack_13 ml_X11_272 yv_f11_stepsOfKin ⟨rfl, rfl⟩ ⟨Nat.le_of_ble_eq_true rfl, Nat.le_of_ble_eq_true rfl⟩ (hpC rfl rfl) rfl rfl rfl (Nat.le_of_ble_eq_true rfl) (ok_f11_stepsOfKin 0 x1 h (tt_bind T)) ?_
    rintro _ _ ⟨r3, rfl, rfl, T⟩
    show G ΛC x 16 [(0, .ref 0), (1, .int x1)] [.int r3] h
    refine g_istore_n (L' := [(2, .int r3), (0, .ref 0), (1, .int x1)]) C dX11_laughBack_16 rfl (by decide) rfl ?_
    refine g_iload_n (q := 0) C dX11_laughBack_17 rfl rfl ?_
    refine g_if_ge (tgt := 25) C dX11_laughBack_18 (by decide) (fun c4 => ?_) (fun c4 => ?_)
    · have T := tt_t T c4
      refine g_aload_n (q := 1) C dX11_laughBack_25 rfl rfl ?_
      refine g_bipush (v := 8) C dX11_laughBack_26 (by decide) ?_
      refine g_aload_n (q := 1) C dX11_laughBack_28 rfl rfl ?_
      refine g_getF (k := 2) (q := 6) C dX11_laughBack_29 (hpC rfl rfl) rfl fl_X11_30 rfl rfl ?_
      refine g_getF (k := 0) (q := 7) C dX11_laughBack_32 (hpC rfl rfl) rfl fl_X11_140 rfl rfl ?_
      refine g_iload_n (q := 2) C dX11_laughBack_35 rfl rfl ?_
      obtain ⟨g5, T⟩ := tt_gd T
      refine g_aald (q := 8 + 2 * ix x1) C dX11_laughBack_36 (hpC rfl rfl) rfl (inb_of rfl g5) rfl ?_
      refine g_getI (k := 2) C dX11_laughBack_37 (hpC (kboxC (a := 7) rfl g5) rfl) (kboxC (a := 7) rfl g5) fl_X11_147 rfl ?_
      refine g_imul C dX11_laughBack_40 ?_
      refine g_iload_n (q := 0) C dX11_laughBack_41 rfl rfl ?_
      refine g_callV (p := 0) (As := [.int (8 * (h.1 (8 + 2 * ix x1) 2)), .int r3]) C dX11_laughBack_42 ml_X11_296 yv_f11_guestsWho ⟨rfl, rfl⟩ ⟨Nat.le_of_ble_eq_true rfl, Nat.le_of_ble_eq_true rfl⟩ (hpC rfl rfl) rfl rfl rfl (Nat.le_of_ble_eq_true rfl) (ok_f11_guestsWho (8 * (h.1 (8 + 2 * ix x1) 2)) r3 h (tt_bind T)) ?_
      rintro _ _ ⟨r6, rfl, rfl, T⟩
      show G ΛC x 45 [(2, .int r3), (0, .ref 0), (1, .int x1)] [.int r6] h
      exact g_iret C dX11_laughBack_45 (hR _ (tt_some T))
    · have T := tt_f T c4
      refine g_iconst (v := 0) C dX11_laughBack_21 (by decide) ?_
      refine g_goto (tgt := 45) C dX11_laughBack_22 (by decide) ?_
      exact g_iret C dX11_laughBack_45 (hR _ (tt_some T))
  · have T := tt_t T c2
    refine g_iconst (v := (-1)) C dX11_laughBack_8 (by decide) ?_
    exact g_iret C dX11_laughBack_9 (hR _ (tt_some T))

theorem ok_f11_laughBack {l : Launch} {K : Int32 → Prop} (x1 : Int32) (h : Hp) (T : Tt (f11_laughBack x1 h) K) : Ok ΛC l yX11_laughBack cX11_laughBack 3 (some .int) rm_f11_laughBack [.ref 0, .int x1] h (PIs K h) :=
  Ok.of RX11 rfl (by decide) ⟨rfl, rfl⟩ (Nat.le_of_ble_eq_true rfl) (fun x C => k_f11_laughBack C x1 h (fun v q => ⟨v, rfl, rfl, q⟩) T)

abbrev rm_f11_laughterOfThisYear : Room := { frames := 6, cells := 0, slots := 0, locals := 148 }
noncomputable def f11_laughterOfThisYear (x1 : Int32) (h : Hp) : Option (Int32 × Hp) :=
  gd (inb x1 6) <| (f0_copyOf 51 (8 + 2 * ix x1) h).bind fun h2 => (f11_isDampAsItGoes h2).bind fun r3 => (f11_laughterOnTrial 1 r3 h2).bind fun (r4, h5) => some (r4, h5)
set_option maxRecDepth 100000 in
set_option maxHeartbeats 4000000 in
theorem k_f11_laughterOfThisYear {x : Mx} {l : Launch} {post0 : Option Value → Hp → Prop} (C : Cx ΛC x l RX11 cX11_laughterOfThisYear rm_f11_laughterOfThisYear (some .int) 2 post0) {K : Int32 × Hp → Prop} (x1 : Int32) (h : Hp) (hR : ∀ (v : Int32) (h : Hp), K (v, h) → post0 (some (.int v)) h) (T : Tt (f11_laughterOfThisYear x1 h) K) : G ΛC x 0 [(0, .ref 0), (1, .int x1)] [] h := by
  refine g_aload_n (q := 0) C dX11_laughterOfThisYear_0 rfl rfl ?_
  refine g_getF (k := 8) (q := 51) C dX11_laughterOfThisYear_1 (hpC rfl rfl) rfl fl_X11_68 rfl rfl ?_
  refine g_aload_n (q := 0) C dX11_laughterOfThisYear_4 rfl rfl ?_
  refine g_getF (k := 2) (q := 6) C dX11_laughterOfThisYear_5 (hpC rfl rfl) rfl fl_X11_30 rfl rfl ?_
  refine g_getF (k := 0) (q := 7) C dX11_laughterOfThisYear_8 (hpC rfl rfl) rfl fl_X11_140 rfl rfl ?_
  refine g_iload_n (q := 1) C dX11_laughterOfThisYear_11 rfl rfl ?_
  obtain ⟨g1, T⟩ := tt_gd T
  refine g_aald (q := 8 + 2 * ix x1) C dX11_laughterOfThisYear_12 (hpC rfl rfl) rfl (inb_of rfl g1) rfl ?_
  refine g_callV (p := 51) (As := [.ref (8 + 2 * ix x1)]) C dX11_laughterOfThisYear_13 ml_X11_223 yv_f0_copyOf ⟨rfl, rfl⟩ ⟨Nat.le_of_ble_eq_true rfl, Nat.le_of_ble_eq_true rfl⟩ (hpC rfl rfl) rfl rfl rfl (Nat.le_of_ble_eq_true rfl) (ok_f0_copyOf 51 (8 + 2 * ix x1) rfl (kboxC (a := 7) rfl g1) h (tt_bind T)) ?_
  rintro _ h2 ⟨rfl, T⟩
  show G ΛC x 16 [(0, .ref 0), (1, .int x1)] [] h2
  refine g_aload_n (q := 0) C dX11_laughterOfThisYear_16 rfl rfl ?_
  refine g_iconst (v := 1) C dX11_laughterOfThisYear_17 (by decide) ?_
  refine g_aload_n (q := 0) C dX11_laughterOfThisYear_18 rfl rfl ?_
  refine g_callV (p := 0) (As := []) C dX11_laughterOfThisYear_19 ml_X11_279 yv_f11_isDampAsItGoes ⟨rfl, rfl⟩ ⟨Nat.le_of_ble_eq_true rfl, Nat.le_of_ble_eq_true rfl⟩ (hpC rfl rfl) rfl rfl rfl (Nat.le_of_ble_eq_true rfl) (ok_f11_isDampAsItGoes h2 (tt_bind T)) ?_
  rintro _ _ ⟨r3, rfl, rfl, T⟩
  show G ΛC x 22 [(0, .ref 0), (1, .int x1)] [.int r3, .int 1, .ref 0] h2
  refine g_callV (p := 0) (As := [.int 1, .int r3]) C dX11_laughterOfThisYear_22 ml_X11_292 yv_f11_laughterOnTrial ⟨rfl, rfl⟩ ⟨Nat.le_of_ble_eq_true rfl, Nat.le_of_ble_eq_true rfl⟩ (hpC rfl rfl) rfl rfl rfl (Nat.le_of_ble_eq_true rfl) (ok_f11_laughterOnTrial 1 r3 h2 (tt_bind T)) ?_
  rintro _ h5 ⟨r4, rfl, T⟩
  show G ΛC x 25 [(0, .ref 0), (1, .int x1)] [.int r4] h5
  exact g_iret C dX11_laughterOfThisYear_25 (hR _ _ (tt_some T))

theorem ok_f11_laughterOfThisYear {l : Launch} {K : Int32 × Hp → Prop} (x1 : Int32) (h : Hp) (T : Tt (f11_laughterOfThisYear x1 h) K) : Ok ΛC l yX11_laughterOfThisYear cX11_laughterOfThisYear 2 (some .int) rm_f11_laughterOfThisYear [.ref 0, .int x1] h (PIw K) :=
  Ok.of RX11 rfl (by decide) ⟨rfl, rfl⟩ (Nat.le_of_ble_eq_true rfl) (fun x C => k_f11_laughterOfThisYear C x1 h (fun v _ q => ⟨v, rfl, q⟩) T)

abbrev rm_f11_keyIsWorth : Room := { frames := 0, cells := 0, slots := 0, locals := 0 }
noncomputable def f11_keyIsWorth_19 (x1 : Int32) (s0 : Int32) : Option (Int32) :=
  some (s0 - x1)
set_option maxRecDepth 100000 in
set_option maxHeartbeats 4000000 in
theorem k_f11_keyIsWorth_19 {x : Mx} {l : Launch} {post0 : Option Value → Hp → Prop} (C : Cx ΛC x l RX11 cX11_keyIsWorth rm_f11_keyIsWorth (some .int) 3 post0) {K : Int32 → Prop} (x1 : Int32) (s0 : Int32) (h : Hp) (hR : ∀ v : Int32, K v → post0 (some (.int v)) h) (T : Tt (f11_keyIsWorth_19 x1 s0) K) : G ΛC x 19 [(1, .int x1)] [.int s0] h := by
  refine g_iload_n (q := 0) C dX11_keyIsWorth_19 rfl rfl ?_
  refine g_isub C dX11_keyIsWorth_20 ?_
  exact g_iret C dX11_keyIsWorth_21 (hR _ (tt_some T))

noncomputable def f11_keyIsWorth (x0 : Int32) (x1 : Int32) (x2 : Int32) : Option (Int32) :=
  if x2 ≤ x1 then (if x1 ≤ x2 then (f11_keyIsWorth_19 x1 (x0 / 2)) else (f11_keyIsWorth_19 x1 x0)) else (some 0)
set_option maxRecDepth 100000 in
set_option maxHeartbeats 4000000 in
theorem k_f11_keyIsWorth {x : Mx} {l : Launch} {post0 : Option Value → Hp → Prop} (C : Cx ΛC x l RX11 cX11_keyIsWorth rm_f11_keyIsWorth (some .int) 3 post0) {K : Int32 → Prop} (x0 : Int32) (x1 : Int32) (x2 : Int32) (h : Hp) (hR : ∀ v : Int32, K v → post0 (some (.int v)) h) (T : Tt (f11_keyIsWorth x0 x1 x2) K) : G ΛC x 0 [(0, .int x0), (1, .int x1), (2, .int x2)] [] h := by
  refine g_iload_n (q := 1) C dX11_keyIsWorth_0 rfl rfl ?_
  refine g_iload_n (q := 2) C dX11_keyIsWorth_1 rfl rfl ?_
  refine g_icmp_ge (tgt := 7) C dX11_keyIsWorth_2 (by decide) (fun c1 => ?_) (fun c1 => ?_)
  · have T := tt_t T c1
    refine g_iload_n (q := 1) C dX11_keyIsWorth_7 rfl rfl ?_
    refine g_iload_n (q := 2) C dX11_keyIsWorth_8 rfl rfl ?_
    refine g_icmp_le (tgt := 16) C dX11_keyIsWorth_9 (by decide) (fun c2 => ?_) (fun c2 => ?_)
    · have T := tt_t T c2
      refine g_iload_n (q := 0) C dX11_keyIsWorth_16 rfl rfl ?_
      refine g_iconst (v := 2) C dX11_keyIsWorth_17 (by decide) ?_
      refine g_idiv C dX11_keyIsWorth_18 (by decide) ?_
      refine g_sub [1] rfl ?_
      exact k_f11_keyIsWorth_19 C x1 (x0 / 2) h hR T
    · have T := tt_f T c2
      refine g_iload_n (q := 0) C dX11_keyIsWorth_12 rfl rfl ?_
      refine g_goto (tgt := 19) C dX11_keyIsWorth_13 (by decide) ?_
      refine g_sub [1] rfl ?_
      exact k_f11_keyIsWorth_19 C x1 x0 h hR T
  · have T := tt_f T c1
    refine g_iconst (v := 0) C dX11_keyIsWorth_5 (by decide) ?_
    exact g_iret C dX11_keyIsWorth_6 (hR _ (tt_some T))

theorem ok_f11_keyIsWorth {l : Launch} {K : Int32 → Prop} (x0 : Int32) (x1 : Int32) (x2 : Int32) (h : Hp) (T : Tt (f11_keyIsWorth x0 x1 x2) K) : Ok ΛC l yX11_keyIsWorth cX11_keyIsWorth 3 (some .int) rm_f11_keyIsWorth [.int x0, .int x1, .int x2] h (PIs K h) :=
  Ok.of RX11 rfl (by decide) ⟨rfl, rfl⟩ (Nat.le_of_ble_eq_true rfl) (fun x C => k_f11_keyIsWorth C x0 x1 x2 h (fun v q => ⟨v, rfl, rfl, q⟩) T)

abbrev rm_f11_isRest : Room := { frames := 1, cells := 0, slots := 0, locals := 22 }
noncomputable def f11_isRest_2_s (x0 : Int32) (x1 : Int32) (x2 : Int32) (x3 : Int32) : Option ((Int32) ⊕ (Int32)) :=
  if 4 < x3 then (some (.inr 1)) else ((f11_keyIsWorth x0 x3 x2).bind fun r2 => (f11_keyIsWorth x0 x1 x2).bind fun r3 => if r3 < r2 then (some (.inr 0)) else ((f11_keyIsWorth x0 x3 x1).bind fun r5 => (f11_keyIsWorth x0 x2 x1).bind fun r6 => if r5 ≤ r6 then (some (.inl (x3 + 1))) else (some (.inr 0))))
set_option maxRecDepth 100000 in
set_option maxHeartbeats 4000000 in
theorem k_f11_isRest_2_s {x : Mx} {l : Launch} {post0 : Option Value → Hp → Prop} (C : Cx ΛC x l RX11 cX11_isRest rm_f11_isRest (some .boolean) 4 post0) {K : (Int32) ⊕ (Int32) → Prop} (x0 : Int32) (x1 : Int32) (x2 : Int32) (x3 : Int32) (h : Hp) (hR : ∀ v : Int32, K (.inr v) → post0 (some (.int v)) h) (hL2 : ∀ (x3 : Int32), K (.inl x3) → G ΛC x 2 [(0, .int x0), (1, .int x1), (2, .int x2), (3, .int x3)] [] h) (T : Tt (f11_isRest_2_s x0 x1 x2 x3) K) : G ΛC x 2 [(0, .int x0), (1, .int x1), (2, .int x2), (3, .int x3)] [] h := by
  refine g_iload_n (q := 3) C dX11_isRest_2 rfl rfl ?_
  refine g_iconst (v := 4) C dX11_isRest_3 (by decide) ?_
  refine g_icmp_gt (tgt := 45) C dX11_isRest_4 (by decide) (fun c1 => ?_) (fun c1 => ?_)
  · have T := tt_t T c1
    refine g_iconst (v := 1) C dX11_isRest_45 (by decide) ?_
    exact g_zret C dX11_isRest_46 (Or.inr rfl) (hR _ (tt_some T))
  · have T := tt_f T c1
    refine g_iload_n (q := 0) C dX11_isRest_7 rfl rfl ?_
    refine g_iload_n (q := 3) C dX11_isRest_8 rfl rfl ?_
    refine g_iload_n (q := 2) C dX11_isRest_9 rfl rfl ?_
    refine g_callS (As := [.int x0, .int x3, .int x2]) C dX11_isRest_10 ml_X11_382 ys_f11_keyIsWorth ⟨rfl, rfl⟩ ⟨Nat.le_of_ble_eq_true rfl, Nat.le_of_ble_eq_true rfl⟩ rfl rfl (Nat.le_of_ble_eq_true rfl) (ok_f11_keyIsWorth x0 x3 x2 h (tt_bind T)) ?_
    rintro _ _ ⟨r2, rfl, rfl, T⟩
    show G ΛC x 13 [(0, .int x0), (1, .int x1), (2, .int x2), (3, .int x3)] [.int r2] h
    refine g_iload_n (q := 0) C dX11_isRest_13 rfl rfl ?_
    refine g_iload_n (q := 1) C dX11_isRest_14 rfl rfl ?_
    refine g_iload_n (q := 2) C dX11_isRest_15 rfl rfl ?_
    refine g_callS (As := [.int x0, .int x1, .int x2]) C dX11_isRest_16 ml_X11_382 ys_f11_keyIsWorth ⟨rfl, rfl⟩ ⟨Nat.le_of_ble_eq_true rfl, Nat.le_of_ble_eq_true rfl⟩ rfl rfl (Nat.le_of_ble_eq_true rfl) (ok_f11_keyIsWorth x0 x1 x2 h (tt_bind T)) ?_
    rintro _ _ ⟨r3, rfl, rfl, T⟩
    show G ΛC x 19 [(0, .int x0), (1, .int x1), (2, .int x2), (3, .int x3)] [.int r3, .int r2] h
    refine g_icmp_gt (tgt := 37) C dX11_isRest_19 (by decide) (fun c4 => ?_) (fun c4 => ?_)
    · have T := tt_t T c4
      refine g_iconst (v := 0) C dX11_isRest_37 (by decide) ?_
      exact g_zret C dX11_isRest_38 (Or.inl rfl) (hR _ (tt_some T))
    · have T := tt_f T c4
      refine g_iload_n (q := 0) C dX11_isRest_22 rfl rfl ?_
      refine g_iload_n (q := 3) C dX11_isRest_23 rfl rfl ?_
      refine g_iload_n (q := 1) C dX11_isRest_24 rfl rfl ?_
      refine g_callS (As := [.int x0, .int x3, .int x1]) C dX11_isRest_25 ml_X11_382 ys_f11_keyIsWorth ⟨rfl, rfl⟩ ⟨Nat.le_of_ble_eq_true rfl, Nat.le_of_ble_eq_true rfl⟩ rfl rfl (Nat.le_of_ble_eq_true rfl) (ok_f11_keyIsWorth x0 x3 x1 h (tt_bind T)) ?_
      rintro _ _ ⟨r5, rfl, rfl, T⟩
      show G ΛC x 28 [(0, .int x0), (1, .int x1), (2, .int x2), (3, .int x3)] [.int r5] h
      refine g_iload_n (q := 0) C dX11_isRest_28 rfl rfl ?_
      refine g_iload_n (q := 2) C dX11_isRest_29 rfl rfl ?_
      refine g_iload_n (q := 1) C dX11_isRest_30 rfl rfl ?_
      refine g_callS (As := [.int x0, .int x2, .int x1]) C dX11_isRest_31 ml_X11_382 ys_f11_keyIsWorth ⟨rfl, rfl⟩ ⟨Nat.le_of_ble_eq_true rfl, Nat.le_of_ble_eq_true rfl⟩ rfl rfl (Nat.le_of_ble_eq_true rfl) (ok_f11_keyIsWorth x0 x2 x1 h (tt_bind T)) ?_
      rintro _ _ ⟨r6, rfl, rfl, T⟩
      show G ΛC x 34 [(0, .int x0), (1, .int x1), (2, .int x2), (3, .int x3)] [.int r6, .int r5] h
      refine g_icmp_le (tgt := 39) C dX11_isRest_34 (by decide) (fun c7 => ?_) (fun c7 => ?_)
      · have T := tt_t T c7
        refine g_iinc (v := x3 + 1) (q := 3) (L' := [(3, .int (x3 + 1)), (0, .int x0), (1, .int x1), (2, .int x2)]) C dX11_isRest_39 rfl (by first | rfl | exact congrArg _ (by decide)) (by decide) rfl ?_
        refine g_goto (tgt := 2) C dX11_isRest_42 (by decide) ?_
        refine g_sub [1, 2, 3, 0] rfl ?_
        exact hL2 _ (tt_some T)
      · have T := tt_f T c7
        refine g_iconst (v := 0) C dX11_isRest_37 (by decide) ?_
        exact g_zret C dX11_isRest_38 (Or.inl rfl) (hR _ (tt_some T))

noncomputable def f11_isRest_2 (x0 : Int32) (x1 : Int32) (x2 : Int32) (x3 : Int32) : Option (Int32) := lp (fun z : Int32 => f11_isRest_2_s x0 x1 x2 z) x3
theorem k_f11_isRest_2 {x : Mx} {l : Launch} {post0 : Option Value → Hp → Prop} (C : Cx ΛC x l RX11 cX11_isRest rm_f11_isRest (some .boolean) 4 post0) {K : Int32 → Prop} (x0 : Int32) (x1 : Int32) (x2 : Int32) (x3 : Int32) (h : Hp) (hR : ∀ v : Int32, K v → post0 (some (.int v)) h) (T : Tt (f11_isRest_2 x0 x1 x2 x3) K) : G ΛC x 2 [(0, .int x0), (1, .int x1), (2, .int x2), (3, .int x3)] [] h :=
  lp_ind (f := fun z : Int32 => f11_isRest_2_s x0 x1 x2 z) (P := fun z : Int32 => G ΛC x 2 [(0, .int x0), (1, .int x1), (2, .int x2), (3, .int z)] [] h) (K := K) (fun z T => k_f11_isRest_2_s C (K := KS (fun z : Int32 => G ΛC x 2 [(0, .int x0), (1, .int x1), (2, .int x2), (3, .int z)] [] h) K) x0 x1 x2 z h hR (fun _ q => q) T) x3 T
noncomputable def f11_isRest (x0 : Int32) (x1 : Int32) (x2 : Int32) : Option (Int32) :=
  f11_isRest_2 x0 x1 x2 0
set_option maxRecDepth 100000 in
set_option maxHeartbeats 4000000 in
theorem k_f11_isRest {x : Mx} {l : Launch} {post0 : Option Value → Hp → Prop} (C : Cx ΛC x l RX11 cX11_isRest rm_f11_isRest (some .boolean) 4 post0) {K : Int32 → Prop} (x0 : Int32) (x1 : Int32) (x2 : Int32) (h : Hp) (hR : ∀ v : Int32, K v → post0 (some (.int v)) h) (T : Tt (f11_isRest x0 x1 x2) K) : G ΛC x 0 [(0, .int x0), (1, .int x1), (2, .int x2)] [] h := by
  refine g_iconst (v := 0) C dX11_isRest_0 (by decide) ?_
  refine g_istore_n (L' := [(3, .int 0), (0, .int x0), (1, .int x1), (2, .int x2)]) C dX11_isRest_1 rfl (by decide) rfl ?_
  refine g_sub [1, 2, 3, 0] rfl ?_
  exact k_f11_isRest_2 C x0 x1 x2 0 h hR T

theorem ok_f11_isRest {l : Launch} {K : Int32 → Prop} (x0 : Int32) (x1 : Int32) (x2 : Int32) (h : Hp) (T : Tt (f11_isRest x0 x1 x2) K) : Ok ΛC l yX11_isRest cX11_isRest 4 (some .boolean) rm_f11_isRest [.int x0, .int x1, .int x2] h (PIs K h) :=
  Ok.of RX11 rfl (by decide) ⟨rfl, rfl⟩ (Nat.le_of_ble_eq_true rfl) (fun x C => k_f11_isRest C x0 x1 x2 h (fun v q => ⟨v, rfl, rfl, q⟩) T)

abbrev rm_f11_rests : Room := { frames := 7, cells := 0, slots := 0, locals := 169 }
noncomputable def f11_rests_56 (x2 : Int32) (x3 : Int32) (x4 : Int32) (h : Hp) : Option ((Int32 × Int32) ⊕ (Int32 × Hp)) :=
  some (.inl (x3, x4 + 1))
set_option maxRecDepth 100000 in
set_option maxHeartbeats 4000000 in
theorem k_f11_rests_56 {x : Mx} {l : Launch} {post0 : Option Value → Hp → Prop} (C : Cx ΛC x l RX11 cX11_rests rm_f11_rests (some .int) 6 post0) {K : (Int32 × Int32) ⊕ (Int32 × Hp) → Prop} (x2 : Int32) (x3 : Int32) (x4 : Int32) (h : Hp) (hR : ∀ (v : Int32) (h : Hp), K (.inr (v, h)) → post0 (some (.int v)) h) (hL21 : ∀ (x3 : Int32) (x4 : Int32), K (.inl (x3, x4)) → G ΛC x 21 [(2, .int x2), (3, .int x3), (4, .int x4)] [] h) (T : Tt (f11_rests_56 x2 x3 x4 h) K) : G ΛC x 56 [(2, .int x2), (3, .int x3), (4, .int x4)] [] h := by
  refine g_iinc (v := x4 + 1) (q := 2) (L' := [(4, .int (x4 + 1)), (2, .int x2), (3, .int x3)]) C dX11_rests_56 rfl (by first | rfl | exact congrArg _ (by decide)) (by decide) rfl ?_
  refine g_goto (tgt := 21) C dX11_rests_59 (by decide) ?_
  refine g_sub [1, 2, 0] rfl ?_
  exact hL21 _ _ (tt_some T)

noncomputable def f11_rests_50 (x2 : Int32) (x3 : Int32) (x4 : Int32) (x5 : Int32) (h : Hp) : Option ((Int32 × Int32) ⊕ ((Int32 × Int32) ⊕ (Int32 × Hp))) :=
  some (.inl (x3, x5 + 1))
set_option maxRecDepth 100000 in
set_option maxHeartbeats 4000000 in
theorem k_f11_rests_50 {x : Mx} {l : Launch} {post0 : Option Value → Hp → Prop} (C : Cx ΛC x l RX11 cX11_rests rm_f11_rests (some .int) 6 post0) {K : (Int32 × Int32) ⊕ ((Int32 × Int32) ⊕ (Int32 × Hp)) → Prop} (x2 : Int32) (x3 : Int32) (x4 : Int32) (x5 : Int32) (h : Hp) (hR : ∀ (v : Int32) (h : Hp), K (.inr (.inr (v, h))) → post0 (some (.int v)) h) (hL21 : ∀ (x3 : Int32) (x4 : Int32), K (.inr (.inl (x3, x4))) → G ΛC x 21 [(2, .int x2), (3, .int x3), (4, .int x4)] [] h) (hL30 : ∀ (x3 : Int32) (x5 : Int32), K (.inl (x3, x5)) → G ΛC x 30 [(2, .int x2), (3, .int x3), (4, .int x4), (5, .int x5)] [] h) (T : Tt (f11_rests_50 x2 x3 x4 x5 h) K) : G ΛC x 50 [(2, .int x2), (3, .int x3), (4, .int x4), (5, .int x5)] [] h := by
  refine g_iinc (v := x5 + 1) (q := 3) (L' := [(5, .int (x5 + 1)), (2, .int x2), (3, .int x3), (4, .int x4)]) C dX11_rests_50 rfl (by first | rfl | exact congrArg _ (by decide)) (by decide) rfl ?_
  refine g_goto (tgt := 30) C dX11_rests_53 (by decide) ?_
  refine g_sub [1, 2, 3, 0] rfl ?_
  exact hL30 _ _ (tt_some T)

noncomputable def f11_rests_30_s (x2 : Int32) (x3 : Int32) (x4 : Int32) (x5 : Int32) (h : Hp) : Option ((Int32 × Int32) ⊕ ((Int32 × Int32) ⊕ (Int32 × Hp))) :=
  if 4 < x5 then ((f11_rests_56 x2 x3 x4 h).map (fun z => .inr (z))) else ((f11_isRest x2 x4 x5).bind fun r7 => if r7 = 0 then (f11_rests_50 x2 x3 x4 x5 h) else (f11_rests_50 x2 (x3 + 1) x4 x5 h))
set_option maxRecDepth 100000 in
set_option maxHeartbeats 4000000 in
theorem k_f11_rests_30_s {x : Mx} {l : Launch} {post0 : Option Value → Hp → Prop} (C : Cx ΛC x l RX11 cX11_rests rm_f11_rests (some .int) 6 post0) {K : (Int32 × Int32) ⊕ ((Int32 × Int32) ⊕ (Int32 × Hp)) → Prop} (x2 : Int32) (x3 : Int32) (x4 : Int32) (x5 : Int32) (h : Hp) (hR : ∀ (v : Int32) (h : Hp), K (.inr (.inr (v, h))) → post0 (some (.int v)) h) (hL21 : ∀ (x3 : Int32) (x4 : Int32), K (.inr (.inl (x3, x4))) → G ΛC x 21 [(2, .int x2), (3, .int x3), (4, .int x4)] [] h) (hL30 : ∀ (x3 : Int32) (x5 : Int32), K (.inl (x3, x5)) → G ΛC x 30 [(2, .int x2), (3, .int x3), (4, .int x4), (5, .int x5)] [] h) (T : Tt (f11_rests_30_s x2 x3 x4 x5 h) K) : G ΛC x 30 [(2, .int x2), (3, .int x3), (4, .int x4), (5, .int x5)] [] h := by
  refine g_iload (q := 3) C dX11_rests_30 rfl ?_
  refine g_iconst (v := 4) C dX11_rests_32 (by decide) ?_
  refine g_icmp_gt (tgt := 56) C dX11_rests_33 (by decide) (fun c6 => ?_) (fun c6 => ?_)
  · have T := tt_t T c6
    refine g_sub [0, 1, 2] rfl ?_
    exact k_f11_rests_56 C x2 x3 x4 h hR hL21 (tt_map T)
  · have T := tt_f T c6
    refine g_iload_n (q := 0) C dX11_rests_36 rfl rfl ?_
    refine g_iload (q := 2) C dX11_rests_37 rfl ?_
    refine g_iload (q := 3) C dX11_rests_39 rfl ?_
    refine g_callS (As := [.int x2, .int x4, .int x5]) C dX11_rests_41 ml_X11_302 ys_f11_isRest ⟨rfl, rfl⟩ ⟨Nat.le_of_ble_eq_true rfl, Nat.le_of_ble_eq_true rfl⟩ rfl rfl (Nat.le_of_ble_eq_true rfl) (ok_f11_isRest x2 x4 x5 h (tt_bind T)) ?_
    rintro _ _ ⟨r7, rfl, rfl, T⟩
    show G ΛC x 44 [(2, .int x2), (3, .int x3), (4, .int x4), (5, .int x5)] [.int r7] h
    refine g_if_eq (tgt := 50) C dX11_rests_44 (by decide) (fun c8 => ?_) (fun c8 => ?_)
    · have T := tt_t T c8
      exact k_f11_rests_50 C x2 x3 x4 x5 h hR hL21 hL30 T
    · have T := tt_f T c8
      refine g_iinc (v := x3 + 1) (q := 1) (L' := [(3, .int (x3 + 1)), (2, .int x2), (4, .int x4), (5, .int x5)]) C dX11_rests_47 rfl (by first | rfl | exact congrArg _ (by decide)) (by decide) rfl ?_
      refine g_sub [1, 0, 2, 3] rfl ?_
      exact k_f11_rests_50 C x2 (x3 + 1) x4 x5 h hR hL21 hL30 T

noncomputable def f11_rests_30 (x2 : Int32) (x3 : Int32) (x4 : Int32) (x5 : Int32) (h : Hp) : Option ((Int32 × Int32) ⊕ (Int32 × Hp)) := lp (fun z : Int32 × Int32 => f11_rests_30_s x2 z.1 x4 z.2 h) (x3, x5)
theorem k_f11_rests_30 {x : Mx} {l : Launch} {post0 : Option Value → Hp → Prop} (C : Cx ΛC x l RX11 cX11_rests rm_f11_rests (some .int) 6 post0) {K : (Int32 × Int32) ⊕ (Int32 × Hp) → Prop} (x2 : Int32) (x3 : Int32) (x4 : Int32) (x5 : Int32) (h : Hp) (hR : ∀ (v : Int32) (h : Hp), K (.inr (v, h)) → post0 (some (.int v)) h) (hL21 : ∀ (x3 : Int32) (x4 : Int32), K (.inl (x3, x4)) → G ΛC x 21 [(2, .int x2), (3, .int x3), (4, .int x4)] [] h) (T : Tt (f11_rests_30 x2 x3 x4 x5 h) K) : G ΛC x 30 [(2, .int x2), (3, .int x3), (4, .int x4), (5, .int x5)] [] h :=
  lp_ind (f := fun z : Int32 × Int32 => f11_rests_30_s x2 z.1 x4 z.2 h) (P := fun z : Int32 × Int32 => G ΛC x 30 [(2, .int x2), (3, .int z.1), (4, .int x4), (5, .int z.2)] [] h) (K := K) (fun z T => k_f11_rests_30_s C (K := KS (fun z : Int32 × Int32 => G ΛC x 30 [(2, .int x2), (3, .int z.1), (4, .int x4), (5, .int z.2)] [] h) K) x2 z.1 x4 z.2 h hR hL21 (fun _ _ q => q) T) (x3, x5) T
noncomputable def f11_rests_21_s (x2 : Int32) (x3 : Int32) (x4 : Int32) (h : Hp) : Option ((Int32 × Int32) ⊕ (Int32 × Hp)) :=
  if 4 < x4 then (some (.inr (x3, h))) else (f11_rests_30 x2 x3 x4 0 h)
set_option maxRecDepth 100000 in
set_option maxHeartbeats 4000000 in
theorem k_f11_rests_21_s {x : Mx} {l : Launch} {post0 : Option Value → Hp → Prop} (C : Cx ΛC x l RX11 cX11_rests rm_f11_rests (some .int) 6 post0) {K : (Int32 × Int32) ⊕ (Int32 × Hp) → Prop} (x2 : Int32) (x3 : Int32) (x4 : Int32) (h : Hp) (hR : ∀ (v : Int32) (h : Hp), K (.inr (v, h)) → post0 (some (.int v)) h) (hL21 : ∀ (x3 : Int32) (x4 : Int32), K (.inl (x3, x4)) → G ΛC x 21 [(2, .int x2), (3, .int x3), (4, .int x4)] [] h) (T : Tt (f11_rests_21_s x2 x3 x4 h) K) : G ΛC x 21 [(2, .int x2), (3, .int x3), (4, .int x4)] [] h := by
  refine g_iload (q := 2) C dX11_rests_21 rfl ?_
  refine g_iconst (v := 4) C dX11_rests_23 (by decide) ?_
  refine g_icmp_gt (tgt := 62) C dX11_rests_24 (by decide) (fun c5 => ?_) (fun c5 => ?_)
  · have T := tt_t T c5
    refine g_iload_n (q := 1) C dX11_rests_62 rfl rfl ?_
    exact g_iret C dX11_rests_63 (hR _ _ (tt_some T))
  · have T := tt_f T c5
    refine g_iconst (v := 0) C dX11_rests_27 (by decide) ?_
    refine g_istore (L' := [(5, .int 0), (2, .int x2), (3, .int x3), (4, .int x4)]) C dX11_rests_28 (by decide) rfl ?_
    refine g_sub [1, 2, 3, 0] rfl ?_
    exact k_f11_rests_30 C x2 x3 x4 0 h hR hL21 T

noncomputable def f11_rests_21 (x2 : Int32) (x3 : Int32) (x4 : Int32) (h : Hp) : Option (Int32 × Hp) := lp (fun z : Int32 × Int32 => f11_rests_21_s x2 z.1 z.2 h) (x3, x4)
theorem k_f11_rests_21 {x : Mx} {l : Launch} {post0 : Option Value → Hp → Prop} (C : Cx ΛC x l RX11 cX11_rests rm_f11_rests (some .int) 6 post0) {K : Int32 × Hp → Prop} (x2 : Int32) (x3 : Int32) (x4 : Int32) (h : Hp) (hR : ∀ (v : Int32) (h : Hp), K (v, h) → post0 (some (.int v)) h) (T : Tt (f11_rests_21 x2 x3 x4 h) K) : G ΛC x 21 [(2, .int x2), (3, .int x3), (4, .int x4)] [] h :=
  lp_ind (f := fun z : Int32 × Int32 => f11_rests_21_s x2 z.1 z.2 h) (P := fun z : Int32 × Int32 => G ΛC x 21 [(2, .int x2), (3, .int z.1), (4, .int z.2)] [] h) (K := K) (fun z T => k_f11_rests_21_s C (K := KS (fun z : Int32 × Int32 => G ΛC x 21 [(2, .int x2), (3, .int z.1), (4, .int z.2)] [] h) K) x2 z.1 z.2 h hR (fun _ _ q => q) T) (x3, x4) T
noncomputable def f11_rests (x1 : Int32) (h : Hp) : Option (Int32 × Hp) :=
  (f11_isBox x1 h).bind fun r1 => if r1 = 0 then (some ((-1), h)) else ((f11_laughterOfThisYear x1 h).bind fun (r3, h4) => f11_rests_21 r3 0 0 h4)
set_option maxRecDepth 100000 in
set_option maxHeartbeats 4000000 in
theorem k_f11_rests {x : Mx} {l : Launch} {post0 : Option Value → Hp → Prop} (C : Cx ΛC x l RX11 cX11_rests rm_f11_rests (some .int) 6 post0) {K : Int32 × Hp → Prop} (x1 : Int32) (h : Hp) (hR : ∀ (v : Int32) (h : Hp), K (v, h) → post0 (some (.int v)) h) (T : Tt (f11_rests x1 h) K) : G ΛC x 0 [(0, .ref 0), (1, .int x1)] [] h := by
  refine g_aload_n (q := 0) C dX11_rests_0 rfl rfl ?_
  refine g_iload_n (q := 1) C dX11_rests_1 rfl rfl ?_
  refine g_callV (p := 0) (As := [.int x1]) C dX11_rests_2 ml_X11_129 yv_f11_isBox ⟨rfl, rfl⟩ ⟨Nat.le_of_ble_eq_true rfl, Nat.le_of_ble_eq_true rfl⟩ (hpC rfl rfl) rfl rfl rfl (Nat.le_of_ble_eq_true rfl) (ok_f11_isBox x1 h (tt_bind T)) ?_
  rintro _ _ ⟨r1, rfl, rfl, T⟩
  show G ΛC x 5 [(0, .ref 0), (1, .int x1)] [.int r1] h
  refine g_if_ne (tgt := 10) C dX11_rests_5 (by decide) (fun c2 => ?_) (fun c2 => ?_)
  · have T := tt_f T c2
    refine g_aload_n (q := 0) C dX11_rests_10 rfl rfl ?_
    refine g_iload_n (q := 1) C dX11_rests_11 rfl rfl ?_
    refine g_callV (p := 0) (As := [.int x1]) C dX11_rests_12 ml_X11_299 yv_f11_laughterOfThisYear ⟨rfl, rfl⟩ ⟨Nat.le_of_ble_eq_true rfl, Nat.le_of_ble_eq_true rfl⟩ (hpC rfl rfl) rfl rfl rfl (Nat.le_of_ble_eq_true rfl) (ok_f11_laughterOfThisYear x1 h (tt_bind T)) ?_
    rintro _ h4 ⟨r3, rfl, T⟩
    show G ΛC x 15 [(0, .ref 0), (1, .int x1)] [.int r3] h4
    refine g_istore_n (L' := [(2, .int r3), (0, .ref 0), (1, .int x1)]) C dX11_rests_15 rfl (by decide) rfl ?_
    refine g_iconst (v := 0) C dX11_rests_16 (by decide) ?_
    refine g_istore_n (L' := [(3, .int 0), (2, .int r3), (0, .ref 0), (1, .int x1)]) C dX11_rests_17 rfl (by decide) rfl ?_
    refine g_iconst (v := 0) C dX11_rests_18 (by decide) ?_
    refine g_istore (L' := [(4, .int 0), (3, .int 0), (2, .int r3), (0, .ref 0), (1, .int x1)]) C dX11_rests_19 (by decide) rfl ?_
    refine g_sub [2, 1, 0] rfl ?_
    exact k_f11_rests_21 C r3 0 0 h4 hR T
  · have T := tt_t T c2
    refine g_iconst (v := (-1)) C dX11_rests_8 (by decide) ?_
    exact g_iret C dX11_rests_9 (hR _ _ (tt_some T))

theorem ok_f11_rests {l : Launch} {K : Int32 × Hp → Prop} (x1 : Int32) (h : Hp) (T : Tt (f11_rests x1 h) K) : Ok ΛC l yX11_rests cX11_rests 6 (some .int) rm_f11_rests [.ref 0, .int x1] h (PIw K) :=
  Ok.of RX11 rfl (by decide) ⟨rfl, rfl⟩ (Nat.le_of_ble_eq_true rfl) (fun x C => k_f11_rests C x1 h (fun v _ q => ⟨v, rfl, q⟩) T)

abbrev rm_f11_rest : Room := { frames := 7, cells := 0, slots := 0, locals := 169 }
noncomputable def f11_rest_76 (x2 : Int32) (x3 : Int32) (x4 : Int32) (x5 : Int32) (h : Hp) : Option ((Int32 × Int32) ⊕ (Int32 × Hp)) :=
  some (.inl (x4, x5 + 1))
set_option maxRecDepth 100000 in
set_option maxHeartbeats 4000000 in
theorem k_f11_rest_76 {x : Mx} {l : Launch} {post0 : Option Value → Hp → Prop} (C : Cx ΛC x l RX11 cX11_rest rm_f11_rest (some .int) 7 post0) {K : (Int32 × Int32) ⊕ (Int32 × Hp) → Prop} (x2 : Int32) (x3 : Int32) (x4 : Int32) (x5 : Int32) (h : Hp) (hR : ∀ (v : Int32) (h : Hp), K (.inr (v, h)) → post0 (some (.int v)) h) (hL26 : ∀ (x4 : Int32) (x5 : Int32), K (.inl (x4, x5)) → G ΛC x 26 [(2, .int x2), (3, .int x3), (4, .int x4), (5, .int x5)] [] h) (T : Tt (f11_rest_76 x2 x3 x4 x5 h) K) : G ΛC x 76 [(2, .int x2), (3, .int x3), (4, .int x4), (5, .int x5)] [] h := by
  refine g_iinc (v := x5 + 1) (q := 3) (L' := [(5, .int (x5 + 1)), (2, .int x2), (3, .int x3), (4, .int x4)]) C dX11_rest_76 rfl (by first | rfl | exact congrArg _ (by decide)) (by decide) rfl ?_
  refine g_goto (tgt := 26) C dX11_rest_79 (by decide) ?_
  refine g_sub [1, 2, 3, 0] rfl ?_
  exact hL26 _ _ (tt_some T)

noncomputable def f11_rest_70 (x2 : Int32) (x3 : Int32) (x4 : Int32) (x5 : Int32) (x6 : Int32) (h : Hp) : Option ((Int32 × Int32) ⊕ ((Int32 × Int32) ⊕ (Int32 × Hp))) :=
  some (.inl (x4, x6 + 1))
set_option maxRecDepth 100000 in
set_option maxHeartbeats 4000000 in
theorem k_f11_rest_70 {x : Mx} {l : Launch} {post0 : Option Value → Hp → Prop} (C : Cx ΛC x l RX11 cX11_rest rm_f11_rest (some .int) 7 post0) {K : (Int32 × Int32) ⊕ ((Int32 × Int32) ⊕ (Int32 × Hp)) → Prop} (x2 : Int32) (x3 : Int32) (x4 : Int32) (x5 : Int32) (x6 : Int32) (h : Hp) (hR : ∀ (v : Int32) (h : Hp), K (.inr (.inr (v, h))) → post0 (some (.int v)) h) (hL26 : ∀ (x4 : Int32) (x5 : Int32), K (.inr (.inl (x4, x5))) → G ΛC x 26 [(2, .int x2), (3, .int x3), (4, .int x4), (5, .int x5)] [] h) (hL35 : ∀ (x4 : Int32) (x6 : Int32), K (.inl (x4, x6)) → G ΛC x 35 [(2, .int x2), (3, .int x3), (4, .int x4), (5, .int x5), (6, .int x6)] [] h) (T : Tt (f11_rest_70 x2 x3 x4 x5 x6 h) K) : G ΛC x 70 [(2, .int x2), (3, .int x3), (4, .int x4), (5, .int x5), (6, .int x6)] [] h := by
  refine g_iinc (v := x6 + 1) (q := 4) (L' := [(6, .int (x6 + 1)), (2, .int x2), (3, .int x3), (4, .int x4), (5, .int x5)]) C dX11_rest_70 rfl (by first | rfl | exact congrArg _ (by decide)) (by decide) rfl ?_
  refine g_goto (tgt := 35) C dX11_rest_73 (by decide) ?_
  refine g_sub [1, 2, 3, 4, 0] rfl ?_
  exact hL35 _ _ (tt_some T)

noncomputable def f11_rest_58 (x5 : Int32) (x6 : Int32) (h : Hp) : Option (Int32 × Hp) :=
  some ((10 * x5) + x6, h)
set_option maxRecDepth 100000 in
set_option maxHeartbeats 4000000 in
theorem k_f11_rest_58 {x : Mx} {l : Launch} {post0 : Option Value → Hp → Prop} (C : Cx ΛC x l RX11 cX11_rest rm_f11_rest (some .int) 7 post0) {K : Int32 × Hp → Prop} (x5 : Int32) (x6 : Int32) (h : Hp) (hR : ∀ (v : Int32) (h : Hp), K (v, h) → post0 (some (.int v)) h) (T : Tt (f11_rest_58 x5 x6 h) K) : G ΛC x 58 [(5, .int x5), (6, .int x6)] [] h := by
  refine g_bipush (v := 10) C dX11_rest_58 (by decide) ?_
  refine g_iload (q := 0) C dX11_rest_60 rfl ?_
  refine g_imul C dX11_rest_62 ?_
  refine g_iload (q := 1) C dX11_rest_63 rfl ?_
  refine g_iadd C dX11_rest_65 ?_
  exact g_iret C dX11_rest_66 (hR _ _ (tt_some T))

noncomputable def f11_rest_35_s (x2 : Int32) (x3 : Int32) (x4 : Int32) (x5 : Int32) (x6 : Int32) (h : Hp) : Option ((Int32 × Int32) ⊕ ((Int32 × Int32) ⊕ (Int32 × Hp))) :=
  if 4 < x6 then ((f11_rest_76 x2 x3 x4 x5 h).map (fun z => .inr (z))) else ((f11_isRest x3 x5 x6).bind fun r8 => if r8 = 0 then (f11_rest_70 x2 x3 x4 x5 x6 h) else (if x4 = x2 then ((f11_rest_58 x5 x6 h).map (fun z => .inr (.inr (z)))) else (f11_rest_70 x2 x3 (x4 + 1) x5 x6 h)))
set_option maxRecDepth 100000 in
set_option maxHeartbeats 4000000 in
theorem k_f11_rest_35_s {x : Mx} {l : Launch} {post0 : Option Value → Hp → Prop} (C : Cx ΛC x l RX11 cX11_rest rm_f11_rest (some .int) 7 post0) {K : (Int32 × Int32) ⊕ ((Int32 × Int32) ⊕ (Int32 × Hp)) → Prop} (x2 : Int32) (x3 : Int32) (x4 : Int32) (x5 : Int32) (x6 : Int32) (h : Hp) (hR : ∀ (v : Int32) (h : Hp), K (.inr (.inr (v, h))) → post0 (some (.int v)) h) (hL26 : ∀ (x4 : Int32) (x5 : Int32), K (.inr (.inl (x4, x5))) → G ΛC x 26 [(2, .int x2), (3, .int x3), (4, .int x4), (5, .int x5)] [] h) (hL35 : ∀ (x4 : Int32) (x6 : Int32), K (.inl (x4, x6)) → G ΛC x 35 [(2, .int x2), (3, .int x3), (4, .int x4), (5, .int x5), (6, .int x6)] [] h) (T : Tt (f11_rest_35_s x2 x3 x4 x5 x6 h) K) : G ΛC x 35 [(2, .int x2), (3, .int x3), (4, .int x4), (5, .int x5), (6, .int x6)] [] h := by
  refine g_iload (q := 4) C dX11_rest_35 rfl ?_
  refine g_iconst (v := 4) C dX11_rest_37 (by decide) ?_
  refine g_icmp_gt (tgt := 76) C dX11_rest_38 (by decide) (fun c7 => ?_) (fun c7 => ?_)
  · have T := tt_t T c7
    refine g_sub [0, 1, 2, 3] rfl ?_
    exact k_f11_rest_76 C x2 x3 x4 x5 h hR hL26 (tt_map T)
  · have T := tt_f T c7
    refine g_iload_n (q := 1) C dX11_rest_41 rfl rfl ?_
    refine g_iload (q := 3) C dX11_rest_42 rfl ?_
    refine g_iload (q := 4) C dX11_rest_44 rfl ?_
    refine g_callS (As := [.int x3, .int x5, .int x6]) C dX11_rest_46 ml_X11_302 ys_f11_isRest ⟨rfl, rfl⟩ ⟨Nat.le_of_ble_eq_true rfl, Nat.le_of_ble_eq_true rfl⟩ rfl rfl (Nat.le_of_ble_eq_true rfl) (ok_f11_isRest x3 x5 x6 h (tt_bind T)) ?_
    rintro _ _ ⟨r8, rfl, rfl, T⟩
    show G ΛC x 49 [(2, .int x2), (3, .int x3), (4, .int x4), (5, .int x5), (6, .int x6)] [.int r8] h
    refine g_if_eq (tgt := 70) C dX11_rest_49 (by decide) (fun c9 => ?_) (fun c9 => ?_)
    · have T := tt_t T c9
      exact k_f11_rest_70 C x2 x3 x4 x5 x6 h hR hL26 hL35 T
    · have T := tt_f T c9
      refine g_iload (q := 2) C dX11_rest_52 rfl ?_
      refine g_iload_n (q := 0) C dX11_rest_54 rfl rfl ?_
      refine g_icmp_ne (tgt := 67) C dX11_rest_55 (by decide) (fun c10 => ?_) (fun c10 => ?_)
      · have T := tt_f T c10
        refine g_iinc (v := x4 + 1) (q := 2) (L' := [(4, .int (x4 + 1)), (2, .int x2), (3, .int x3), (5, .int x5), (6, .int x6)]) C dX11_rest_67 rfl (by first | rfl | exact congrArg _ (by decide)) (by decide) rfl ?_
        refine g_sub [1, 2, 0, 3, 4] rfl ?_
        exact k_f11_rest_70 C x2 x3 (x4 + 1) x5 x6 h hR hL26 hL35 T
      · have T := tt_t T c10
        refine g_sub [3, 4] rfl ?_
        exact k_f11_rest_58 C x5 x6 h hR (tt_map T)

noncomputable def f11_rest_35 (x2 : Int32) (x3 : Int32) (x4 : Int32) (x5 : Int32) (x6 : Int32) (h : Hp) : Option ((Int32 × Int32) ⊕ (Int32 × Hp)) := lp (fun z : Int32 × Int32 => f11_rest_35_s x2 x3 z.1 x5 z.2 h) (x4, x6)
theorem k_f11_rest_35 {x : Mx} {l : Launch} {post0 : Option Value → Hp → Prop} (C : Cx ΛC x l RX11 cX11_rest rm_f11_rest (some .int) 7 post0) {K : (Int32 × Int32) ⊕ (Int32 × Hp) → Prop} (x2 : Int32) (x3 : Int32) (x4 : Int32) (x5 : Int32) (x6 : Int32) (h : Hp) (hR : ∀ (v : Int32) (h : Hp), K (.inr (v, h)) → post0 (some (.int v)) h) (hL26 : ∀ (x4 : Int32) (x5 : Int32), K (.inl (x4, x5)) → G ΛC x 26 [(2, .int x2), (3, .int x3), (4, .int x4), (5, .int x5)] [] h) (T : Tt (f11_rest_35 x2 x3 x4 x5 x6 h) K) : G ΛC x 35 [(2, .int x2), (3, .int x3), (4, .int x4), (5, .int x5), (6, .int x6)] [] h :=
  lp_ind (f := fun z : Int32 × Int32 => f11_rest_35_s x2 x3 z.1 x5 z.2 h) (P := fun z : Int32 × Int32 => G ΛC x 35 [(2, .int x2), (3, .int x3), (4, .int z.1), (5, .int x5), (6, .int z.2)] [] h) (K := K) (fun z T => k_f11_rest_35_s C (K := KS (fun z : Int32 × Int32 => G ΛC x 35 [(2, .int x2), (3, .int x3), (4, .int z.1), (5, .int x5), (6, .int z.2)] [] h) K) x2 x3 z.1 x5 z.2 h hR hL26 (fun _ _ q => q) T) (x4, x6) T
noncomputable def f11_rest_26_s (x2 : Int32) (x3 : Int32) (x4 : Int32) (x5 : Int32) (h : Hp) : Option ((Int32 × Int32) ⊕ (Int32 × Hp)) :=
  if 4 < x5 then (some (.inr ((-2), h))) else (f11_rest_35 x2 x3 x4 x5 0 h)
set_option maxRecDepth 100000 in
set_option maxHeartbeats 4000000 in
theorem k_f11_rest_26_s {x : Mx} {l : Launch} {post0 : Option Value → Hp → Prop} (C : Cx ΛC x l RX11 cX11_rest rm_f11_rest (some .int) 7 post0) {K : (Int32 × Int32) ⊕ (Int32 × Hp) → Prop} (x2 : Int32) (x3 : Int32) (x4 : Int32) (x5 : Int32) (h : Hp) (hR : ∀ (v : Int32) (h : Hp), K (.inr (v, h)) → post0 (some (.int v)) h) (hL26 : ∀ (x4 : Int32) (x5 : Int32), K (.inl (x4, x5)) → G ΛC x 26 [(2, .int x2), (3, .int x3), (4, .int x4), (5, .int x5)] [] h) (T : Tt (f11_rest_26_s x2 x3 x4 x5 h) K) : G ΛC x 26 [(2, .int x2), (3, .int x3), (4, .int x4), (5, .int x5)] [] h := by
  refine g_iload (q := 3) C dX11_rest_26 rfl ?_
  refine g_iconst (v := 4) C dX11_rest_28 (by decide) ?_
  refine g_icmp_gt (tgt := 82) C dX11_rest_29 (by decide) (fun c6 => ?_) (fun c6 => ?_)
  · have T := tt_t T c6
    refine g_bipush (v := (-2)) C dX11_rest_82 (by decide) ?_
    exact g_iret C dX11_rest_84 (hR _ _ (tt_some T))
  · have T := tt_f T c6
    refine g_iconst (v := 0) C dX11_rest_32 (by decide) ?_
    refine g_istore (L' := [(6, .int 0), (2, .int x2), (3, .int x3), (4, .int x4), (5, .int x5)]) C dX11_rest_33 (by decide) rfl ?_
    refine g_sub [1, 2, 3, 4, 0] rfl ?_
    exact k_f11_rest_35 C x2 x3 x4 x5 0 h hR hL26 T

noncomputable def f11_rest_26 (x2 : Int32) (x3 : Int32) (x4 : Int32) (x5 : Int32) (h : Hp) : Option (Int32 × Hp) := lp (fun z : Int32 × Int32 => f11_rest_26_s x2 x3 z.1 z.2 h) (x4, x5)
theorem k_f11_rest_26 {x : Mx} {l : Launch} {post0 : Option Value → Hp → Prop} (C : Cx ΛC x l RX11 cX11_rest rm_f11_rest (some .int) 7 post0) {K : Int32 × Hp → Prop} (x2 : Int32) (x3 : Int32) (x4 : Int32) (x5 : Int32) (h : Hp) (hR : ∀ (v : Int32) (h : Hp), K (v, h) → post0 (some (.int v)) h) (T : Tt (f11_rest_26 x2 x3 x4 x5 h) K) : G ΛC x 26 [(2, .int x2), (3, .int x3), (4, .int x4), (5, .int x5)] [] h :=
  lp_ind (f := fun z : Int32 × Int32 => f11_rest_26_s x2 x3 z.1 z.2 h) (P := fun z : Int32 × Int32 => G ΛC x 26 [(2, .int x2), (3, .int x3), (4, .int z.1), (5, .int z.2)] [] h) (K := K) (fun z T => k_f11_rest_26_s C (K := KS (fun z : Int32 × Int32 => G ΛC x 26 [(2, .int x2), (3, .int x3), (4, .int z.1), (5, .int z.2)] [] h) K) x2 x3 z.1 z.2 h hR (fun _ _ q => q) T) (x4, x5) T
noncomputable def f11_rest (x1 : Int32) (x2 : Int32) (h : Hp) : Option (Int32 × Hp) :=
  (f11_isBox x1 h).bind fun r1 => if r1 = 0 then (some ((-1), h)) else (if 0 ≤ x2 then ((f11_laughterOfThisYear x1 h).bind fun (r4, h5) => f11_rest_26 x2 r4 0 0 h5) else (some ((-1), h)))
set_option maxRecDepth 100000 in
set_option maxHeartbeats 4000000 in
theorem k_f11_rest {x : Mx} {l : Launch} {post0 : Option Value → Hp → Prop} (C : Cx ΛC x l RX11 cX11_rest rm_f11_rest (some .int) 7 post0) {K : Int32 × Hp → Prop} (x1 : Int32) (x2 : Int32) (h : Hp) (hR : ∀ (v : Int32) (h : Hp), K (v, h) → post0 (some (.int v)) h) (T : Tt (f11_rest x1 x2 h) K) : G ΛC x 0 [(0, .ref 0), (1, .int x1), (2, .int x2)] [] h := by
  refine g_aload_n (q := 0) C dX11_rest_0 rfl rfl ?_
  refine g_iload_n (q := 1) C dX11_rest_1 rfl rfl ?_
  refine g_callV (p := 0) (As := [.int x1]) C dX11_rest_2 ml_X11_129 yv_f11_isBox ⟨rfl, rfl⟩ ⟨Nat.le_of_ble_eq_true rfl, Nat.le_of_ble_eq_true rfl⟩ (hpC rfl rfl) rfl rfl rfl (Nat.le_of_ble_eq_true rfl) (ok_f11_isBox x1 h (tt_bind T)) ?_
  rintro _ _ ⟨r1, rfl, rfl, T⟩
  show G ΛC x 5 [(0, .ref 0), (1, .int x1), (2, .int x2)] [.int r1] h
  refine g_if_eq (tgt := 12) C dX11_rest_5 (by decide) (fun c2 => ?_) (fun c2 => ?_)
  · have T := tt_t T c2
    refine g_iconst (v := (-1)) C dX11_rest_12 (by decide) ?_
    exact g_iret C dX11_rest_13 (hR _ _ (tt_some T))
  · have T := tt_f T c2
    refine g_iload_n (q := 2) C dX11_rest_8 rfl rfl ?_
    refine g_if_ge (tgt := 14) C dX11_rest_9 (by decide) (fun c3 => ?_) (fun c3 => ?_)
    · have T := tt_t T c3
      refine g_aload_n (q := 0) C dX11_rest_14 rfl rfl ?_
      refine g_iload_n (q := 1) C dX11_rest_15 rfl rfl ?_
      refine g_callV (p := 0) (As := [.int x1]) C dX11_rest_16 ml_X11_299 yv_f11_laughterOfThisYear ⟨rfl, rfl⟩ ⟨Nat.le_of_ble_eq_true rfl, Nat.le_of_ble_eq_true rfl⟩ (hpC rfl rfl) rfl rfl rfl (Nat.le_of_ble_eq_true rfl) (ok_f11_laughterOfThisYear x1 h (tt_bind T)) ?_
      rintro _ h5 ⟨r4, rfl, T⟩
      show G ΛC x 19 [(0, .ref 0), (1, .int x1), (2, .int x2)] [.int r4] h5
      refine g_istore_n (L' := [(3, .int r4), (0, .ref 0), (1, .int x1), (2, .int x2)]) C dX11_rest_19 rfl (by decide) rfl ?_
      refine g_iconst (v := 0) C dX11_rest_20 (by decide) ?_
      refine g_istore (L' := [(4, .int 0), (3, .int r4), (0, .ref 0), (1, .int x1), (2, .int x2)]) C dX11_rest_21 (by decide) rfl ?_
      refine g_iconst (v := 0) C dX11_rest_23 (by decide) ?_
      refine g_istore (L' := [(5, .int 0), (4, .int 0), (3, .int r4), (0, .ref 0), (1, .int x1), (2, .int x2)]) C dX11_rest_24 (by decide) rfl ?_
      refine g_sub [5, 2, 1, 0] rfl ?_
      exact k_f11_rest_26 C x2 r4 0 0 h5 hR T
    · have T := tt_f T c3
      refine g_iconst (v := (-1)) C dX11_rest_12 (by decide) ?_
      exact g_iret C dX11_rest_13 (hR _ _ (tt_some T))

theorem ok_f11_rest {l : Launch} {K : Int32 × Hp → Prop} (x1 : Int32) (x2 : Int32) (h : Hp) (T : Tt (f11_rest x1 x2 h) K) : Ok ΛC l yX11_rest cX11_rest 7 (some .int) rm_f11_rest [.ref 0, .int x1, .int x2] h (PIw K) :=
  Ok.of RX11 rfl (by decide) ⟨rfl, rfl⟩ (Nat.le_of_ble_eq_true rfl) (fun x C => k_f11_rest C x1 x2 h (fun v _ q => ⟨v, rfl, q⟩) T)

abbrev rm_f11_ask : Room := { frames := 4, cells := 0, slots := 0, locals := 89 }
noncomputable def f11_ask_70 (x1 : Int32) (x2 : Int32) (x3 : Int32) (h : Hp) : Option (Int32 × Hp) :=
  if x1 = 0 then (some (x3, h)) else ((f2_mostSame x2 x3 h).bind fun r8 => some (r8, h))
set_option maxRecDepth 100000 in
set_option maxHeartbeats 4000000 in
theorem k_f11_ask_70 {x : Mx} {l : Launch} {post0 : Option Value → Hp → Prop} (C : Cx ΛC x l RX11 cX11_ask rm_f11_ask (some .int) 5 post0) {K : Int32 × Hp → Prop} (x1 : Int32) (x2 : Int32) (x3 : Int32) (h : Hp) (hR : ∀ (v : Int32) (h : Hp), K (v, h) → post0 (some (.int v)) h) (T : Tt (f11_ask_70 x1 x2 x3 h) K) : G ΛC x 70 [(0, .ref 0), (1, .int x1), (2, .int x2), (3, .int x3)] [] h := by
  refine g_iload_n (q := 1) C dX11_ask_70 rfl rfl ?_
  refine g_if_ne (tgt := 78) C dX11_ask_71 (by decide) (fun c7 => ?_) (fun c7 => ?_)
  · have T := tt_f T c7
    refine g_aload_n (q := 0) C dX11_ask_78 rfl rfl ?_
    refine g_getF (k := 6) (q := 45) C dX11_ask_79 (hpC rfl rfl) rfl fl_X11_54 rfl rfl ?_
    refine g_iload_n (q := 2) C dX11_ask_82 rfl rfl ?_
    refine g_iload_n (q := 3) C dX11_ask_83 rfl rfl ?_
    refine g_callV (p := 45) (As := [.int x2, .int x3]) C dX11_ask_84 ml_X11_305 yv_f2_mostSame ⟨rfl, rfl⟩ ⟨Nat.le_of_ble_eq_true rfl, Nat.le_of_ble_eq_true rfl⟩ (hpC rfl rfl) rfl rfl rfl (Nat.le_of_ble_eq_true rfl) (ok_f2_mostSame x2 x3 h (tt_bind T)) ?_
    rintro _ _ ⟨r8, rfl, rfl, T⟩
    show G ΛC x 87 [(0, .ref 0), (1, .int x1), (2, .int x2), (3, .int x3)] [.int r8] h
    exact g_iret C dX11_ask_87 (hR _ _ (tt_some T))
  · have T := tt_t T c7
    refine g_iload_n (q := 3) C dX11_ask_74 rfl rfl ?_
    refine g_goto (tgt := 87) C dX11_ask_75 (by decide) ?_
    exact g_iret C dX11_ask_87 (hR _ _ (tt_some T))

noncomputable def f11_ask_64 (x1 : Int32) (x2 : Int32) (x3 : Int32) (x4 : Int32) (h : Hp) : Option ((Int32 × Int32) ⊕ (Int32 × Hp)) :=
  some (.inl (x3, x4 + 1))
set_option maxRecDepth 100000 in
set_option maxHeartbeats 4000000 in
theorem k_f11_ask_64 {x : Mx} {l : Launch} {post0 : Option Value → Hp → Prop} (C : Cx ΛC x l RX11 cX11_ask rm_f11_ask (some .int) 5 post0) {K : (Int32 × Int32) ⊕ (Int32 × Hp) → Prop} (x1 : Int32) (x2 : Int32) (x3 : Int32) (x4 : Int32) (h : Hp) (hR : ∀ (v : Int32) (h : Hp), K (.inr (v, h)) → post0 (some (.int v)) h) (hL32 : ∀ (x3 : Int32) (x4 : Int32), K (.inl (x3, x4)) → G ΛC x 32 [(0, .ref 0), (1, .int x1), (2, .int x2), (3, .int x3), (4, .int x4)] [] h) (T : Tt (f11_ask_64 x1 x2 x3 x4 h) K) : G ΛC x 64 [(0, .ref 0), (1, .int x1), (2, .int x2), (3, .int x3), (4, .int x4)] [] h := by
  refine g_iinc (v := x4 + 1) (q := 4) (L' := [(4, .int (x4 + 1)), (0, .ref 0), (1, .int x1), (2, .int x2), (3, .int x3)]) C dX11_ask_64 rfl (by first | rfl | exact congrArg _ (by decide)) (by decide) rfl ?_
  refine g_goto (tgt := 32) C dX11_ask_67 (by decide) ?_
  refine g_sub [1, 2, 3, 4, 0] rfl ?_
  exact hL32 _ _ (tt_some T)

noncomputable def f11_ask_32_s (x1 : Int32) (x2 : Int32) (x3 : Int32) (x4 : Int32) (h : Hp) : Option ((Int32 × Int32) ⊕ (Int32 × Hp)) :=
  if 8 ≤ x4 then ((f11_ask_70 x1 x2 x3 h).map (fun z => .inr (z))) else ((f2_mostSame x2 x4 h).bind fun r9 => (f2_mostSame x2 x3 h).bind fun r10 => if r10 ≤ r9 then (f11_ask_64 x1 x2 x3 x4 h) else (f11_ask_64 x1 x2 x4 x4 h))
set_option maxRecDepth 100000 in
set_option maxHeartbeats 4000000 in
theorem k_f11_ask_32_s {x : Mx} {l : Launch} {post0 : Option Value → Hp → Prop} (C : Cx ΛC x l RX11 cX11_ask rm_f11_ask (some .int) 5 post0) {K : (Int32 × Int32) ⊕ (Int32 × Hp) → Prop} (x1 : Int32) (x2 : Int32) (x3 : Int32) (x4 : Int32) (h : Hp) (hR : ∀ (v : Int32) (h : Hp), K (.inr (v, h)) → post0 (some (.int v)) h) (hL32 : ∀ (x3 : Int32) (x4 : Int32), K (.inl (x3, x4)) → G ΛC x 32 [(0, .ref 0), (1, .int x1), (2, .int x2), (3, .int x3), (4, .int x4)] [] h) (T : Tt (f11_ask_32_s x1 x2 x3 x4 h) K) : G ΛC x 32 [(0, .ref 0), (1, .int x1), (2, .int x2), (3, .int x3), (4, .int x4)] [] h := by
  refine g_iload (q := 4) C dX11_ask_32 rfl ?_
  refine g_bipush (v := 8) C dX11_ask_34 (by decide) ?_
  refine g_icmp_ge (tgt := 70) C dX11_ask_36 (by decide) (fun c6 => ?_) (fun c6 => ?_)
  · have T := tt_t T c6
    refine g_sub [0, 1, 2, 3] rfl ?_
    exact k_f11_ask_70 C x1 x2 x3 h hR (tt_map T)
  · have T := tt_f T c6
    refine g_aload_n (q := 0) C dX11_ask_39 rfl rfl ?_
    refine g_getF (k := 6) (q := 45) C dX11_ask_40 (hpC rfl rfl) rfl fl_X11_54 rfl rfl ?_
    refine g_iload_n (q := 2) C dX11_ask_43 rfl rfl ?_
    refine g_iload (q := 4) C dX11_ask_44 rfl ?_
    refine g_callV (p := 45) (As := [.int x2, .int x4]) C dX11_ask_46 ml_X11_305 yv_f2_mostSame ⟨rfl, rfl⟩ ⟨Nat.le_of_ble_eq_true rfl, Nat.le_of_ble_eq_true rfl⟩ (hpC rfl rfl) rfl rfl rfl (Nat.le_of_ble_eq_true rfl) (ok_f2_mostSame x2 x4 h (tt_bind T)) ?_
    rintro _ _ ⟨r9, rfl, rfl, T⟩
    show G ΛC x 49 [(0, .ref 0), (1, .int x1), (2, .int x2), (3, .int x3), (4, .int x4)] [.int r9] h
    refine g_aload_n (q := 0) C dX11_ask_49 rfl rfl ?_
    refine g_getF (k := 6) (q := 45) C dX11_ask_50 (hpC rfl rfl) rfl fl_X11_54 rfl rfl ?_
    refine g_iload_n (q := 2) C dX11_ask_53 rfl rfl ?_
    refine g_iload_n (q := 3) C dX11_ask_54 rfl rfl ?_
    refine g_callV (p := 45) (As := [.int x2, .int x3]) C dX11_ask_55 ml_X11_305 yv_f2_mostSame ⟨rfl, rfl⟩ ⟨Nat.le_of_ble_eq_true rfl, Nat.le_of_ble_eq_true rfl⟩ (hpC rfl rfl) rfl rfl rfl (Nat.le_of_ble_eq_true rfl) (ok_f2_mostSame x2 x3 h (tt_bind T)) ?_
    rintro _ _ ⟨r10, rfl, rfl, T⟩
    show G ΛC x 58 [(0, .ref 0), (1, .int x1), (2, .int x2), (3, .int x3), (4, .int x4)] [.int r10, .int r9] h
    refine g_icmp_ge (tgt := 64) C dX11_ask_58 (by decide) (fun c11 => ?_) (fun c11 => ?_)
    · have T := tt_t T c11
      exact k_f11_ask_64 C x1 x2 x3 x4 h hR hL32 T
    · have T := tt_f T c11
      refine g_iload (q := 4) C dX11_ask_61 rfl ?_
      refine g_istore_n (L' := [(3, .int x4), (0, .ref 0), (1, .int x1), (2, .int x2), (4, .int x4)]) C dX11_ask_63 rfl (by decide) rfl ?_
      refine g_sub [1, 2, 3, 0, 4] rfl ?_
      exact k_f11_ask_64 C x1 x2 x4 x4 h hR hL32 T

noncomputable def f11_ask_32 (x1 : Int32) (x2 : Int32) (x3 : Int32) (x4 : Int32) (h : Hp) : Option (Int32 × Hp) := lp (fun z : Int32 × Int32 => f11_ask_32_s x1 x2 z.1 z.2 h) (x3, x4)
theorem k_f11_ask_32 {x : Mx} {l : Launch} {post0 : Option Value → Hp → Prop} (C : Cx ΛC x l RX11 cX11_ask rm_f11_ask (some .int) 5 post0) {K : Int32 × Hp → Prop} (x1 : Int32) (x2 : Int32) (x3 : Int32) (x4 : Int32) (h : Hp) (hR : ∀ (v : Int32) (h : Hp), K (v, h) → post0 (some (.int v)) h) (T : Tt (f11_ask_32 x1 x2 x3 x4 h) K) : G ΛC x 32 [(0, .ref 0), (1, .int x1), (2, .int x2), (3, .int x3), (4, .int x4)] [] h :=
  lp_ind (f := fun z : Int32 × Int32 => f11_ask_32_s x1 x2 z.1 z.2 h) (P := fun z : Int32 × Int32 => G ΛC x 32 [(0, .ref 0), (1, .int x1), (2, .int x2), (3, .int z.1), (4, .int z.2)] [] h) (K := K) (fun z T => k_f11_ask_32_s C (K := KS (fun z : Int32 × Int32 => G ΛC x 32 [(0, .ref 0), (1, .int x1), (2, .int x2), (3, .int z.1), (4, .int z.2)] [] h) K) x1 x2 z.1 z.2 h hR (fun _ _ q => q) T) (x3, x4) T
noncomputable def f11_ask (x1 : Int32) (h : Hp) : Option (Int32 × Hp) :=
  (f11_isWithin x1 0 1).bind fun r1 => if r1 = 0 then (some ((-1), h)) else ((f11_boxesThatFit h).bind fun (r3, h4) => (f2_listen 6 h4).bind fun h5 => f11_ask_32 x1 r3 0 1 h5)
set_option maxRecDepth 100000 in
set_option maxHeartbeats 4000000 in
theorem k_f11_ask {x : Mx} {l : Launch} {post0 : Option Value → Hp → Prop} (C : Cx ΛC x l RX11 cX11_ask rm_f11_ask (some .int) 5 post0) {K : Int32 × Hp → Prop} (x1 : Int32) (h : Hp) (hR : ∀ (v : Int32) (h : Hp), K (v, h) → post0 (some (.int v)) h) (T : Tt (f11_ask x1 h) K) : G ΛC x 0 [(0, .ref 0), (1, .int x1)] [] h := by
  refine g_iload_n (q := 1) C dX11_ask_0 rfl rfl ?_
  refine g_iconst (v := 0) C dX11_ask_1 (by decide) ?_
  refine g_iconst (v := 1) C dX11_ask_2 (by decide) ?_
  refine g_callS (As := [.int x1, .int 0, .int 1]) C dX11_ask_3 ml_X11_170 ys_f11_isWithin ⟨rfl, rfl⟩ ⟨Nat.le_of_ble_eq_true rfl, Nat.le_of_ble_eq_true rfl⟩ rfl rfl (Nat.le_of_ble_eq_true rfl) (ok_f11_isWithin x1 0 1 h (tt_bind T)) ?_
  rintro _ _ ⟨r1, rfl, rfl, T⟩
  show G ΛC x 6 [(0, .ref 0), (1, .int x1)] [.int r1] h
  refine g_if_ne (tgt := 11) C dX11_ask_6 (by decide) (fun c2 => ?_) (fun c2 => ?_)
  · have T := tt_f T c2
    refine g_aload_n (q := 0) C dX11_ask_11 rfl rfl ?_
    refine g_callV (p := 0) (As := []) C dX11_ask_12 ml_X11_239 yv_f11_boxesThatFit ⟨rfl, rfl⟩ ⟨Nat.le_of_ble_eq_true rfl, Nat.le_of_ble_eq_true rfl⟩ (hpC rfl rfl) rfl rfl rfl (Nat.le_of_ble_eq_true rfl) (ok_f11_boxesThatFit h (tt_bind T)) ?_
    rintro _ h4 ⟨r3, rfl, T⟩
    show G ΛC x 15 [(0, .ref 0), (1, .int x1)] [.int r3] h4
    refine g_istore_n (L' := [(2, .int r3), (0, .ref 0), (1, .int x1)]) C dX11_ask_15 rfl (by decide) rfl ?_
    refine g_aload_n (q := 1) C dX11_ask_16 rfl rfl ?_
    refine g_getF (k := 6) (q := 45) C dX11_ask_17 (hpC rfl rfl) rfl fl_X11_54 rfl rfl ?_
    refine g_aload_n (q := 1) C dX11_ask_20 rfl rfl ?_
    refine g_getF (k := 2) (q := 6) C dX11_ask_21 (hpC rfl rfl) rfl fl_X11_30 rfl rfl ?_
    refine g_callV (p := 45) (As := [.ref 6]) C dX11_ask_24 ml_X11_231 yv_f2_listen ⟨rfl, rfl⟩ ⟨Nat.le_of_ble_eq_true rfl, Nat.le_of_ble_eq_true rfl⟩ (hpC rfl rfl) rfl rfl rfl (Nat.le_of_ble_eq_true rfl) (ok_f2_listen 6 rfl h4 (tt_bind T)) ?_
    rintro _ h5 ⟨rfl, T⟩
    show G ΛC x 27 [(2, .int r3), (0, .ref 0), (1, .int x1)] [] h5
    refine g_iconst (v := 0) C dX11_ask_27 (by decide) ?_
    refine g_istore_n (L' := [(3, .int 0), (2, .int r3), (0, .ref 0), (1, .int x1)]) C dX11_ask_28 rfl (by decide) rfl ?_
    refine g_iconst (v := 1) C dX11_ask_29 (by decide) ?_
    refine g_istore (L' := [(4, .int 1), (3, .int 0), (2, .int r3), (0, .ref 0), (1, .int x1)]) C dX11_ask_30 (by decide) rfl ?_
    refine g_sub [3, 4, 2, 1, 0] rfl ?_
    exact k_f11_ask_32 C x1 r3 0 1 h5 hR T
  · have T := tt_t T c2
    refine g_iconst (v := (-1)) C dX11_ask_9 (by decide) ?_
    exact g_iret C dX11_ask_10 (hR _ _ (tt_some T))

theorem ok_f11_ask {l : Launch} {K : Int32 × Hp → Prop} (x1 : Int32) (h : Hp) (T : Tt (f11_ask x1 h) K) : Ok ΛC l yX11_ask cX11_ask 5 (some .int) rm_f11_ask [.ref 0, .int x1] h (PIw K) :=
  Ok.of RX11 rfl (by decide) ⟨rfl, rfl⟩ (Nat.le_of_ble_eq_true rfl) (fun x C => k_f11_ask C x1 h (fun v _ q => ⟨v, rfl, q⟩) T)

abbrev rm_f11_stay : Room := { frames := 1, cells := 0, slots := 0, locals := 24 }
noncomputable def f11_stay_55 (x2 : Int32) (h : Hp) : Option (Int32) :=
  (f11_guestsWho (8 * x2) 0 h).bind fun r4 => some r4
set_option maxRecDepth 100000 in
set_option maxHeartbeats 4000000 in
theorem k_f11_stay_55 {x : Mx} {l : Launch} {post0 : Option Value → Hp → Prop} (C : Cx ΛC x l RX11 cX11_stay rm_f11_stay (some .int) 4 post0) {K : Int32 → Prop} (x2 : Int32) (h : Hp) (hR : ∀ v : Int32, K v → post0 (some (.int v)) h) (T : Tt (f11_stay_55 x2 h) K) : G ΛC x 55 [(0, .ref 0), (2, .int x2)] [] h := by
  refine g_aload_n (q := 0) C dX11_stay_55 rfl rfl ?_
  refine g_bipush (v := 8) C dX11_stay_56 (by decide) ?_
  refine g_iload_n (q := 1) C dX11_stay_58 rfl rfl ?_
  refine g_imul C dX11_stay_59 ?_
  refine g_iconst (v := 0) C dX11_stay_60 (by decide) ?_
  refine g_callV (p := 0) (As := [.int (8 * x2), .int 0]) C dX11_stay_61 ml_X11_296 yv_f11_guestsWho ⟨rfl, rfl⟩ ⟨Nat.le_of_ble_eq_true rfl, Nat.le_of_ble_eq_true rfl⟩ (hpC rfl rfl) rfl rfl rfl (Nat.le_of_ble_eq_true rfl) (ok_f11_guestsWho (8 * x2) 0 h (tt_bind T)) ?_
  rintro _ _ ⟨r4, rfl, rfl, T⟩
  show G ΛC x 64 [(0, .ref 0), (2, .int x2)] [.int r4] h
  exact g_iret C dX11_stay_64 (hR _ (tt_some T))

noncomputable def f11_stay_49 (x1 : Int32) (x2 : Int32) (x3 : Int32) (h : Hp) : Option ((Int32 × Int32) ⊕ (Int32)) :=
  some (.inl (x2, x3 + 1))
set_option maxRecDepth 100000 in
set_option maxHeartbeats 4000000 in
theorem k_f11_stay_49 {x : Mx} {l : Launch} {post0 : Option Value → Hp → Prop} (C : Cx ΛC x l RX11 cX11_stay rm_f11_stay (some .int) 4 post0) {K : (Int32 × Int32) ⊕ (Int32) → Prop} (x1 : Int32) (x2 : Int32) (x3 : Int32) (h : Hp) (hR : ∀ v : Int32, K (.inr v) → post0 (some (.int v)) h) (hL14 : ∀ (x2 : Int32) (x3 : Int32), K (.inl (x2, x3)) → G ΛC x 14 [(0, .ref 0), (1, .int x1), (2, .int x2), (3, .int x3)] [] h) (T : Tt (f11_stay_49 x1 x2 x3 h) K) : G ΛC x 49 [(0, .ref 0), (1, .int x1), (2, .int x2), (3, .int x3)] [] h := by
  refine g_iinc (v := x3 + 1) (q := 3) (L' := [(3, .int (x3 + 1)), (0, .ref 0), (1, .int x1), (2, .int x2)]) C dX11_stay_49 rfl (by first | rfl | exact congrArg _ (by decide)) (by decide) rfl ?_
  refine g_goto (tgt := 14) C dX11_stay_52 (by decide) ?_
  refine g_sub [1, 2, 3, 0] rfl ?_
  exact hL14 _ _ (tt_some T)

noncomputable def f11_stay_14_s (x1 : Int32) (x2 : Int32) (x3 : Int32) (h : Hp) : Option ((Int32 × Int32) ⊕ (Int32)) :=
  if h.1 6 1 ≤ x3 then ((f11_stay_55 x2 h).map (fun z => .inr (z))) else (if (x1 >>> (x3 &&& 31)) &&& 1 = 1 then (gd (inb x3 6) <| lt (x2 + (h.1 (8 + 2 * ix x3) 2)) fun v7 => f11_stay_49 x1 v7 x3 h) else (f11_stay_49 x1 x2 x3 h))
set_option maxRecDepth 100000 in
set_option maxHeartbeats 4000000 in
theorem k_f11_stay_14_s {x : Mx} {l : Launch} {post0 : Option Value → Hp → Prop} (C : Cx ΛC x l RX11 cX11_stay rm_f11_stay (some .int) 4 post0) {K : (Int32 × Int32) ⊕ (Int32) → Prop} (x1 : Int32) (x2 : Int32) (x3 : Int32) (h : Hp) (hR : ∀ v : Int32, K (.inr v) → post0 (some (.int v)) h) (hL14 : ∀ (x2 : Int32) (x3 : Int32), K (.inl (x2, x3)) → G ΛC x 14 [(0, .ref 0), (1, .int x1), (2, .int x2), (3, .int x3)] [] h) (T : Tt (f11_stay_14_s x1 x2 x3 h) K) : G ΛC x 14 [(0, .ref 0), (1, .int x1), (2, .int x2), (3, .int x3)] [] h := by
  refine g_iload_n (q := 3) C dX11_stay_14 rfl rfl ?_
  refine g_aload_n (q := 0) C dX11_stay_15 rfl rfl ?_
  refine g_getF (k := 2) (q := 6) C dX11_stay_16 (hpC rfl rfl) rfl fl_X11_30 rfl rfl ?_
  refine g_getI (k := 1) C dX11_stay_19 (hpC rfl rfl) rfl fl_X11_263 rfl ?_
  refine g_icmp_ge (tgt := 55) C dX11_stay_22 (by decide) (fun c3 => ?_) (fun c3 => ?_)
  · have T := tt_t T c3
    refine g_sub [0, 2] rfl ?_
    exact k_f11_stay_55 C x2 h hR (tt_map T)
  · have T := tt_f T c3
    refine g_iload_n (q := 1) C dX11_stay_25 rfl rfl ?_
    refine g_iload_n (q := 3) C dX11_stay_26 rfl rfl ?_
    refine g_ishr C dX11_stay_27 ?_
    refine g_iconst (v := 1) C dX11_stay_28 (by decide) ?_
    refine g_iand C dX11_stay_29 ?_
    refine g_iconst (v := 1) C dX11_stay_30 (by decide) ?_
    refine g_icmp_ne (tgt := 49) C dX11_stay_31 (by decide) (fun c5 => ?_) (fun c5 => ?_)
    · have T := tt_f T c5
      exact k_f11_stay_49 C x1 x2 x3 h hR hL14 T
    · have T := tt_t T c5
      refine g_iload_n (q := 2) C dX11_stay_34 rfl rfl ?_
      refine g_aload_n (q := 0) C dX11_stay_35 rfl rfl ?_
      refine g_getF (k := 2) (q := 6) C dX11_stay_36 (hpC rfl rfl) rfl fl_X11_30 rfl rfl ?_
      refine g_getF (k := 0) (q := 7) C dX11_stay_39 (hpC rfl rfl) rfl fl_X11_140 rfl rfl ?_
      refine g_iload_n (q := 3) C dX11_stay_42 rfl rfl ?_
      obtain ⟨g6, T⟩ := tt_gd T
      refine g_aald (q := 8 + 2 * ix x3) C dX11_stay_43 (hpC rfl rfl) rfl (inb_of rfl g6) rfl ?_
      refine g_getI (k := 2) C dX11_stay_44 (hpC (kboxC (a := 7) rfl g6) rfl) (kboxC (a := 7) rfl g6) fl_X11_147 rfl ?_
      refine g_iadd C dX11_stay_47 ?_
      obtain ⟨v7, ev7, T⟩ := tt_lt T
      refine g_nameI ev7 ?_
      refine g_istore_n (L' := [(2, .int v7), (0, .ref 0), (1, .int x1), (3, .int x3)]) C dX11_stay_48 rfl (by decide) rfl ?_
      refine g_sub [1, 2, 0, 3] rfl ?_
      exact k_f11_stay_49 C x1 v7 x3 h hR hL14 T

noncomputable def f11_stay_14 (x1 : Int32) (x2 : Int32) (x3 : Int32) (h : Hp) : Option (Int32) := lp (fun z : Int32 × Int32 => f11_stay_14_s x1 z.1 z.2 h) (x2, x3)
theorem k_f11_stay_14 {x : Mx} {l : Launch} {post0 : Option Value → Hp → Prop} (C : Cx ΛC x l RX11 cX11_stay rm_f11_stay (some .int) 4 post0) {K : Int32 → Prop} (x1 : Int32) (x2 : Int32) (x3 : Int32) (h : Hp) (hR : ∀ v : Int32, K v → post0 (some (.int v)) h) (T : Tt (f11_stay_14 x1 x2 x3 h) K) : G ΛC x 14 [(0, .ref 0), (1, .int x1), (2, .int x2), (3, .int x3)] [] h :=
  lp_ind (f := fun z : Int32 × Int32 => f11_stay_14_s x1 z.1 z.2 h) (P := fun z : Int32 × Int32 => G ΛC x 14 [(0, .ref 0), (1, .int x1), (2, .int z.1), (3, .int z.2)] [] h) (K := K) (fun z T => k_f11_stay_14_s C (K := KS (fun z : Int32 × Int32 => G ΛC x 14 [(0, .ref 0), (1, .int x1), (2, .int z.1), (3, .int z.2)] [] h) K) x1 z.1 z.2 h hR (fun _ _ q => q) T) (x2, x3) T
noncomputable def f11_stay (x1 : Int32) (h : Hp) : Option (Int32) :=
  (f11_areBoxes x1 h).bind fun r1 => if r1 = 0 then (some (-1)) else (f11_stay_14 x1 0 0 h)
set_option maxRecDepth 100000 in
set_option maxHeartbeats 4000000 in
theorem k_f11_stay {x : Mx} {l : Launch} {post0 : Option Value → Hp → Prop} (C : Cx ΛC x l RX11 cX11_stay rm_f11_stay (some .int) 4 post0) {K : Int32 → Prop} (x1 : Int32) (h : Hp) (hR : ∀ v : Int32, K v → post0 (some (.int v)) h) (T : Tt (f11_stay x1 h) K) : G ΛC x 0 [(0, .ref 0), (1, .int x1)] [] h := by
  refine g_aload_n (q := 0) C dX11_stay_0 rfl rfl ?_
  refine g_iload_n (q := 1) C dX11_stay_1 rfl rfl ?_
  refine g_callV (p := 0) (As := [.int x1]) C dX11_stay_2 ml_X11_246 yv_f11_areBoxes ⟨rfl, rfl⟩ ⟨Nat.le_of_ble_eq_true rfl, Nat.le_of_ble_eq_true rfl⟩ (hpC rfl rfl) rfl rfl rfl (Nat.le_of_ble_eq_true rfl) (ok_f11_areBoxes x1 h (tt_bind T)) ?_
  rintro _ _ ⟨r1, rfl, rfl, T⟩
  show G ΛC x 5 [(0, .ref 0), (1, .int x1)] [.int r1] h
  refine g_if_ne (tgt := 10) C dX11_stay_5 (by decide) (fun c2 => ?_) (fun c2 => ?_)
  · have T := tt_f T c2
    refine g_iconst (v := 0) C dX11_stay_10 (by decide) ?_
    refine g_istore_n (L' := [(2, .int 0), (0, .ref 0), (1, .int x1)]) C dX11_stay_11 rfl (by decide) rfl ?_
    refine g_iconst (v := 0) C dX11_stay_12 (by decide) ?_
    refine g_istore_n (L' := [(3, .int 0), (2, .int 0), (0, .ref 0), (1, .int x1)]) C dX11_stay_13 rfl (by decide) rfl ?_
    refine g_sub [2, 3, 1, 0] rfl ?_
    exact k_f11_stay_14 C x1 0 0 h hR T
  · have T := tt_t T c2
    refine g_iconst (v := (-1)) C dX11_stay_8 (by decide) ?_
    exact g_iret C dX11_stay_9 (hR _ (tt_some T))

theorem ok_f11_stay {l : Launch} {K : Int32 → Prop} (x1 : Int32) (h : Hp) (T : Tt (f11_stay x1 h) K) : Ok ΛC l yX11_stay cX11_stay 4 (some .int) rm_f11_stay [.ref 0, .int x1] h (PIs K h) :=
  Ok.of RX11 rfl (by decide) ⟨rfl, rfl⟩ (Nat.le_of_ble_eq_true rfl) (fun x C => k_f11_stay C x1 h (fun v q => ⟨v, rfl, rfl, q⟩) T)

abbrev rm_f11_line : Room := { frames := 2, cells := 0, slots := 0, locals := 50 }
noncomputable def f11_line (x1 : Int32) (h : Hp) : Option (Int32 × Hp) :=
  (f11_isWithin x1 0 6).bind fun r1 => if r1 = 0 then (some ((-1), h)) else ((f6_longest 6 h).bind fun h3 => if x1 = 0 then (some (h3.1 47 3, h3)) else (if h3.1 47 3 < x1 then (some ((-2), h3)) else (gd (inb (x1 - 1) 6) <| some (h3.1 50 (ix (x1 - 1)), h3))))
set_option maxRecDepth 100000 in
set_option maxHeartbeats 4000000 in
theorem k_f11_line {x : Mx} {l : Launch} {post0 : Option Value → Hp → Prop} (C : Cx ΛC x l RX11 cX11_line rm_f11_line (some .int) 2 post0) {K : Int32 × Hp → Prop} (x1 : Int32) (h : Hp) (hR : ∀ (v : Int32) (h : Hp), K (v, h) → post0 (some (.int v)) h) (T : Tt (f11_line x1 h) K) : G ΛC x 0 [(0, .ref 0), (1, .int x1)] [] h := by
  refine g_iload_n (q := 1) C dX11_line_0 rfl rfl ?_
  refine g_iconst (v := 0) C dX11_line_1 (by decide) ?_
  refine g_bipush (v := 6) C dX11_line_2 (by decide) ?_
  refine g_callS (As := [.int x1, .int 0, .int 6]) C dX11_line_4 ml_X11_170 ys_f11_isWithin ⟨rfl, rfl⟩ ⟨Nat.le_of_ble_eq_true rfl, Nat.le_of_ble_eq_true rfl⟩ rfl rfl (Nat.le_of_ble_eq_true rfl) (ok_f11_isWithin x1 0 6 h (tt_bind T)) ?_
  rintro _ _ ⟨r1, rfl, rfl, T⟩
  show G ΛC x 7 [(0, .ref 0), (1, .int x1)] [.int r1] h
  refine g_if_ne (tgt := 12) C dX11_line_7 (by decide) (fun c2 => ?_) (fun c2 => ?_)
  · have T := tt_f T c2
    refine g_aload_n (q := 0) C dX11_line_12 rfl rfl ?_
    refine g_getF (k := 7) (q := 47) C dX11_line_13 (hpC rfl rfl) rfl fl_X11_61 rfl rfl ?_
    refine g_aload_n (q := 0) C dX11_line_16 rfl rfl ?_
    refine g_getF (k := 2) (q := 6) C dX11_line_17 (hpC rfl rfl) rfl fl_X11_30 rfl rfl ?_
    refine g_callV (p := 47) (As := [.ref 6]) C dX11_line_20 ml_X11_308 yv_f6_longest ⟨rfl, rfl⟩ ⟨Nat.le_of_ble_eq_true rfl, Nat.le_of_ble_eq_true rfl⟩ (hpC rfl rfl) rfl rfl rfl (Nat.le_of_ble_eq_true rfl) (ok_f6_longest 6 rfl h (tt_bind T)) ?_
    rintro _ h3 ⟨rfl, T⟩
    show G ΛC x 23 [(0, .ref 0), (1, .int x1)] [] h3
    refine g_iload_n (q := 1) C dX11_line_23 rfl rfl ?_
    refine g_if_ne (tgt := 35) C dX11_line_24 (by decide) (fun c4 => ?_) (fun c4 => ?_)
    · have T := tt_f T c4
      refine g_iload_n (q := 1) C dX11_line_35 rfl rfl ?_
      refine g_aload_n (q := 0) C dX11_line_36 rfl rfl ?_
      refine g_getF (k := 7) (q := 47) C dX11_line_37 (hpC rfl rfl) rfl fl_X11_61 rfl rfl ?_
      refine g_getI (k := 3) C dX11_line_40 (hpC rfl rfl) rfl fl_X11_253 rfl ?_
      refine g_icmp_gt (tgt := 60) C dX11_line_43 (by decide) (fun c5 => ?_) (fun c5 => ?_)
      · have T := tt_t T c5
        refine g_bipush (v := (-2)) C dX11_line_60 (by decide) ?_
        exact g_iret C dX11_line_62 (hR _ _ (tt_some T))
      · have T := tt_f T c5
        refine g_aload_n (q := 0) C dX11_line_46 rfl rfl ?_
        refine g_getF (k := 7) (q := 47) C dX11_line_47 (hpC rfl rfl) rfl fl_X11_61 rfl rfl ?_
        refine g_getF (k := 2) (q := 50) C dX11_line_50 (hpC rfl rfl) rfl fl_X11_256 rfl rfl ?_
        refine g_iload_n (q := 1) C dX11_line_53 rfl rfl ?_
        refine g_iconst (v := 1) C dX11_line_54 (by decide) ?_
        refine g_isub C dX11_line_55 ?_
        obtain ⟨g6, T⟩ := tt_gd T
        refine g_iald C dX11_line_56 (hpC rfl rfl) rfl (inb_of rfl g6) ?_
        refine g_goto (tgt := 62) C dX11_line_57 (by decide) ?_
        exact g_iret C dX11_line_62 (hR _ _ (tt_some T))
    · have T := tt_t T c4
      refine g_aload_n (q := 0) C dX11_line_27 rfl rfl ?_
      refine g_getF (k := 7) (q := 47) C dX11_line_28 (hpC rfl rfl) rfl fl_X11_61 rfl rfl ?_
      refine g_getI (k := 3) C dX11_line_31 (hpC rfl rfl) rfl fl_X11_253 rfl ?_
      exact g_iret C dX11_line_34 (hR _ _ (tt_some T))
  · have T := tt_t T c2
    refine g_iconst (v := (-1)) C dX11_line_10 (by decide) ?_
    exact g_iret C dX11_line_11 (hR _ _ (tt_some T))

theorem ok_f11_line {l : Launch} {K : Int32 × Hp → Prop} (x1 : Int32) (h : Hp) (T : Tt (f11_line x1 h) K) : Ok ΛC l yX11_line cX11_line 2 (some .int) rm_f11_line [.ref 0, .int x1] h (PIw K) :=
  Ok.of RX11 rfl (by decide) ⟨rfl, rfl⟩ (Nat.le_of_ble_eq_true rfl) (fun x C => k_f11_line C x1 h (fun v _ q => ⟨v, rfl, q⟩) T)

abbrev rm_f11_quote : Room := { frames := 4, cells := 0, slots := 0, locals := 88 }
noncomputable def f11_quote (x1 : Int32) (x2 : Int32) (h : Hp) : Option (Int32 × Hp) :=
  (f11_isBox x1 h).bind fun r1 => if r1 = 0 then (some ((-1), h)) else ((f11_isBox x2 h).bind fun r3 => if r3 = 0 then (some ((-1), h)) else (if x1 = x2 then (some ((-1), h)) else ((f2_listen 6 h).bind fun h6 => (f2_longestRun x1 x2 h6).bind fun r7 => some (r7, h6))))
set_option maxRecDepth 100000 in
set_option maxHeartbeats 4000000 in
theorem k_f11_quote {x : Mx} {l : Launch} {post0 : Option Value → Hp → Prop} (C : Cx ΛC x l RX11 cX11_quote rm_f11_quote (some .int) 3 post0) {K : Int32 × Hp → Prop} (x1 : Int32) (x2 : Int32) (h : Hp) (hR : ∀ (v : Int32) (h : Hp), K (v, h) → post0 (some (.int v)) h) (T : Tt (f11_quote x1 x2 h) K) : G ΛC x 0 [(0, .ref 0), (1, .int x1), (2, .int x2)] [] h := by
  refine g_aload_n (q := 0) C dX11_quote_0 rfl rfl ?_
  refine g_iload_n (q := 1) C dX11_quote_1 rfl rfl ?_
  refine g_callV (p := 0) (As := [.int x1]) C dX11_quote_2 ml_X11_129 yv_f11_isBox ⟨rfl, rfl⟩ ⟨Nat.le_of_ble_eq_true rfl, Nat.le_of_ble_eq_true rfl⟩ (hpC rfl rfl) rfl rfl rfl (Nat.le_of_ble_eq_true rfl) (ok_f11_isBox x1 h (tt_bind T)) ?_
  rintro _ _ ⟨r1, rfl, rfl, T⟩
  show G ΛC x 5 [(0, .ref 0), (1, .int x1), (2, .int x2)] [.int r1] h
  refine g_if_eq (tgt := 21) C dX11_quote_5 (by decide) (fun c2 => ?_) (fun c2 => ?_)
  · have T := tt_t T c2
    refine g_iconst (v := (-1)) C dX11_quote_21 (by decide) ?_
    exact g_iret C dX11_quote_22 (hR _ _ (tt_some T))
  · have T := tt_f T c2
    refine g_aload_n (q := 0) C dX11_quote_8 rfl rfl ?_
    refine g_iload_n (q := 2) C dX11_quote_9 rfl rfl ?_
    refine g_callV (p := 0) (As := [.int x2]) C dX11_quote_10 ml_X11_129 yv_f11_isBox ⟨rfl, rfl⟩ ⟨Nat.le_of_ble_eq_true rfl, Nat.le_of_ble_eq_true rfl⟩ (hpC rfl rfl) rfl rfl rfl (Nat.le_of_ble_eq_true rfl) (ok_f11_isBox x2 h (tt_bind T)) ?_
    rintro _ _ ⟨r3, rfl, rfl, T⟩
    show G ΛC x 13 [(0, .ref 0), (1, .int x1), (2, .int x2)] [.int r3] h
    refine g_if_eq (tgt := 21) C dX11_quote_13 (by decide) (fun c4 => ?_) (fun c4 => ?_)
    · have T := tt_t T c4
      refine g_iconst (v := (-1)) C dX11_quote_21 (by decide) ?_
      exact g_iret C dX11_quote_22 (hR _ _ (tt_some T))
    · have T := tt_f T c4
      refine g_iload_n (q := 1) C dX11_quote_16 rfl rfl ?_
      refine g_iload_n (q := 2) C dX11_quote_17 rfl rfl ?_
      refine g_icmp_ne (tgt := 23) C dX11_quote_18 (by decide) (fun c5 => ?_) (fun c5 => ?_)
      · have T := tt_f T c5
        refine g_aload_n (q := 0) C dX11_quote_23 rfl rfl ?_
        refine g_getF (k := 6) (q := 45) C dX11_quote_24 (hpC rfl rfl) rfl fl_X11_54 rfl rfl ?_
        refine g_aload_n (q := 0) C dX11_quote_27 rfl rfl ?_
        refine g_getF (k := 2) (q := 6) C dX11_quote_28 (hpC rfl rfl) rfl fl_X11_30 rfl rfl ?_
        refine g_callV (p := 45) (As := [.ref 6]) C dX11_quote_31 ml_X11_231 yv_f2_listen ⟨rfl, rfl⟩ ⟨Nat.le_of_ble_eq_true rfl, Nat.le_of_ble_eq_true rfl⟩ (hpC rfl rfl) rfl rfl rfl (Nat.le_of_ble_eq_true rfl) (ok_f2_listen 6 rfl h (tt_bind T)) ?_
        rintro _ h6 ⟨rfl, T⟩
        show G ΛC x 34 [(0, .ref 0), (1, .int x1), (2, .int x2)] [] h6
        refine g_aload_n (q := 0) C dX11_quote_34 rfl rfl ?_
        refine g_getF (k := 6) (q := 45) C dX11_quote_35 (hpC rfl rfl) rfl fl_X11_54 rfl rfl ?_
        refine g_iload_n (q := 1) C dX11_quote_38 rfl rfl ?_
        refine g_iload_n (q := 2) C dX11_quote_39 rfl rfl ?_
        refine g_callV (p := 45) (As := [.int x1, .int x2]) C dX11_quote_40 ml_X11_311 yv_f2_longestRun ⟨rfl, rfl⟩ ⟨Nat.le_of_ble_eq_true rfl, Nat.le_of_ble_eq_true rfl⟩ (hpC rfl rfl) rfl rfl rfl (Nat.le_of_ble_eq_true rfl) (ok_f2_longestRun x1 x2 h6 (tt_bind T)) ?_
        rintro _ _ ⟨r7, rfl, rfl, T⟩
        show G ΛC x 43 [(0, .ref 0), (1, .int x1), (2, .int x2)] [.int r7] h6
        exact g_iret C dX11_quote_43 (hR _ _ (tt_some T))
      · have T := tt_t T c5
        refine g_iconst (v := (-1)) C dX11_quote_21 (by decide) ?_
        exact g_iret C dX11_quote_22 (hR _ _ (tt_some T))

theorem ok_f11_quote {l : Launch} {K : Int32 × Hp → Prop} (x1 : Int32) (x2 : Int32) (h : Hp) (T : Tt (f11_quote x1 x2 h) K) : Ok ΛC l yX11_quote cX11_quote 3 (some .int) rm_f11_quote [.ref 0, .int x1, .int x2] h (PIw K) :=
  Ok.of RX11 rfl (by decide) ⟨rfl, rfl⟩ (Nat.le_of_ble_eq_true rfl) (fun x C => k_f11_quote C x1 x2 h (fun v _ q => ⟨v, rfl, q⟩) T)

abbrev rm_f11_merriest : Room := { frames := 0, cells := 0, slots := 0, locals := 0 }
noncomputable def f11_merriest_49 (x1 : Int32) (x2 : Int32) (x3 : Int32) (h : Hp) : Option ((Int32 × Int32 × Int32) ⊕ (Int32)) :=
  some (.inl (x1, x2, x3 + 1))
set_option maxRecDepth 100000 in
set_option maxHeartbeats 4000000 in
theorem k_f11_merriest_49 {x : Mx} {l : Launch} {post0 : Option Value → Hp → Prop} (C : Cx ΛC x l RX11 cX11_merriest rm_f11_merriest (some .int) 4 post0) {K : (Int32 × Int32 × Int32) ⊕ (Int32) → Prop} (x1 : Int32) (x2 : Int32) (x3 : Int32) (h : Hp) (hR : ∀ v : Int32, K (.inr v) → post0 (some (.int v)) h) (hL7 : ∀ (x1 : Int32) (x2 : Int32) (x3 : Int32), K (.inl (x1, x2, x3)) → G ΛC x 7 [(0, .ref 0), (1, .int x1), (2, .int x2), (3, .int x3)] [] h) (T : Tt (f11_merriest_49 x1 x2 x3 h) K) : G ΛC x 49 [(0, .ref 0), (1, .int x1), (2, .int x2), (3, .int x3)] [] h := by
  refine g_iinc (v := x3 + 1) (q := 3) (L' := [(3, .int (x3 + 1)), (0, .ref 0), (1, .int x1), (2, .int x2)]) C dX11_merriest_49 rfl (by first | rfl | exact congrArg _ (by decide)) (by decide) rfl ?_
  refine g_goto (tgt := 7) C dX11_merriest_52 (by decide) ?_
  refine g_sub [1, 2, 3, 0] rfl ?_
  exact hL7 _ _ _ (tt_some T)

noncomputable def f11_merriest_7_s (x1 : Int32) (x2 : Int32) (x3 : Int32) (h : Hp) : Option ((Int32 × Int32 × Int32) ⊕ (Int32)) :=
  if h.1 6 1 ≤ x3 then (some (.inr x1)) else (gd (inb x3 6) <| if h.1 (8 + 2 * ix x3) 8 ≤ x2 then (f11_merriest_49 x1 x2 x3 h) else (gd (inb x3 6) <| lt (h.1 (8 + 2 * ix x3) 8) fun v5 => f11_merriest_49 x3 v5 x3 h))
set_option maxRecDepth 100000 in
set_option maxHeartbeats 4000000 in
theorem k_f11_merriest_7_s {x : Mx} {l : Launch} {post0 : Option Value → Hp → Prop} (C : Cx ΛC x l RX11 cX11_merriest rm_f11_merriest (some .int) 4 post0) {K : (Int32 × Int32 × Int32) ⊕ (Int32) → Prop} (x1 : Int32) (x2 : Int32) (x3 : Int32) (h : Hp) (hR : ∀ v : Int32, K (.inr v) → post0 (some (.int v)) h) (hL7 : ∀ (x1 : Int32) (x2 : Int32) (x3 : Int32), K (.inl (x1, x2, x3)) → G ΛC x 7 [(0, .ref 0), (1, .int x1), (2, .int x2), (3, .int x3)] [] h) (T : Tt (f11_merriest_7_s x1 x2 x3 h) K) : G ΛC x 7 [(0, .ref 0), (1, .int x1), (2, .int x2), (3, .int x3)] [] h := by
  refine g_iload_n (q := 3) C dX11_merriest_7 rfl rfl ?_
  refine g_aload_n (q := 0) C dX11_merriest_8 rfl rfl ?_
  refine g_getF (k := 2) (q := 6) C dX11_merriest_9 (hpC rfl rfl) rfl fl_X11_30 rfl rfl ?_
  refine g_getI (k := 1) C dX11_merriest_12 (hpC rfl rfl) rfl fl_X11_263 rfl ?_
  refine g_icmp_ge (tgt := 55) C dX11_merriest_15 (by decide) (fun c1 => ?_) (fun c1 => ?_)
  · have T := tt_t T c1
    refine g_iload_n (q := 1) C dX11_merriest_55 rfl rfl ?_
    exact g_iret C dX11_merriest_56 (hR _ (tt_some T))
  · have T := tt_f T c1
    refine g_aload_n (q := 0) C dX11_merriest_18 rfl rfl ?_
    refine g_getF (k := 2) (q := 6) C dX11_merriest_19 (hpC rfl rfl) rfl fl_X11_30 rfl rfl ?_
    refine g_getF (k := 0) (q := 7) C dX11_merriest_22 (hpC rfl rfl) rfl fl_X11_140 rfl rfl ?_
    refine g_iload_n (q := 3) C dX11_merriest_25 rfl rfl ?_
    obtain ⟨g2, T⟩ := tt_gd T
    refine g_aald (q := 8 + 2 * ix x3) C dX11_merriest_26 (hpC rfl rfl) rfl (inb_of rfl g2) rfl ?_
    refine g_getI (k := 8) C dX11_merriest_27 (hpC (kboxC (a := 7) rfl g2) rfl) (kboxC (a := 7) rfl g2) fl_X11_156 rfl ?_
    refine g_iload_n (q := 2) C dX11_merriest_30 rfl rfl ?_
    refine g_icmp_le (tgt := 49) C dX11_merriest_31 (by decide) (fun c3 => ?_) (fun c3 => ?_)
    · have T := tt_t T c3
      exact k_f11_merriest_49 C x1 x2 x3 h hR hL7 T
    · have T := tt_f T c3
      refine g_aload_n (q := 0) C dX11_merriest_34 rfl rfl ?_
      refine g_getF (k := 2) (q := 6) C dX11_merriest_35 (hpC rfl rfl) rfl fl_X11_30 rfl rfl ?_
      refine g_getF (k := 0) (q := 7) C dX11_merriest_38 (hpC rfl rfl) rfl fl_X11_140 rfl rfl ?_
      refine g_iload_n (q := 3) C dX11_merriest_41 rfl rfl ?_
      obtain ⟨g4, T⟩ := tt_gd T
      refine g_aald (q := 8 + 2 * ix x3) C dX11_merriest_42 (hpC rfl rfl) rfl (inb_of rfl g4) rfl ?_
      refine g_getI (k := 8) C dX11_merriest_43 (hpC (kboxC (a := 7) rfl g4) rfl) (kboxC (a := 7) rfl g4) fl_X11_156 rfl ?_
      obtain ⟨v5, ev5, T⟩ := tt_lt T
      refine g_nameI ev5 ?_
      refine g_istore_n (L' := [(2, .int v5), (0, .ref 0), (1, .int x1), (3, .int x3)]) C dX11_merriest_46 rfl (by decide) rfl ?_
      refine g_iload_n (q := 3) C dX11_merriest_47 rfl rfl ?_
      refine g_istore_n (L' := [(1, .int x3), (2, .int v5), (0, .ref 0), (3, .int x3)]) C dX11_merriest_48 rfl (by decide) rfl ?_
      refine g_sub [2, 0, 1, 3] rfl ?_
      exact k_f11_merriest_49 C x3 v5 x3 h hR hL7 T

noncomputable def f11_merriest_7 (x1 : Int32) (x2 : Int32) (x3 : Int32) (h : Hp) : Option (Int32) := lp (fun z : Int32 × Int32 × Int32 => f11_merriest_7_s z.1 z.2.1 z.2.2 h) (x1, x2, x3)
theorem k_f11_merriest_7 {x : Mx} {l : Launch} {post0 : Option Value → Hp → Prop} (C : Cx ΛC x l RX11 cX11_merriest rm_f11_merriest (some .int) 4 post0) {K : Int32 → Prop} (x1 : Int32) (x2 : Int32) (x3 : Int32) (h : Hp) (hR : ∀ v : Int32, K v → post0 (some (.int v)) h) (T : Tt (f11_merriest_7 x1 x2 x3 h) K) : G ΛC x 7 [(0, .ref 0), (1, .int x1), (2, .int x2), (3, .int x3)] [] h :=
  lp_ind (f := fun z : Int32 × Int32 × Int32 => f11_merriest_7_s z.1 z.2.1 z.2.2 h) (P := fun z : Int32 × Int32 × Int32 => G ΛC x 7 [(0, .ref 0), (1, .int z.1), (2, .int z.2.1), (3, .int z.2.2)] [] h) (K := K) (fun z T => k_f11_merriest_7_s C (K := KS (fun z : Int32 × Int32 × Int32 => G ΛC x 7 [(0, .ref 0), (1, .int z.1), (2, .int z.2.1), (3, .int z.2.2)] [] h) K) z.1 z.2.1 z.2.2 h hR (fun _ _ _ q => q) T) (x1, x2, x3) T
noncomputable def f11_merriest (h : Hp) : Option (Int32) :=
  f11_merriest_7 (-2) 0 0 h
set_option maxRecDepth 100000 in
set_option maxHeartbeats 4000000 in
theorem k_f11_merriest {x : Mx} {l : Launch} {post0 : Option Value → Hp → Prop} (C : Cx ΛC x l RX11 cX11_merriest rm_f11_merriest (some .int) 4 post0) {K : Int32 → Prop} (h : Hp) (hR : ∀ v : Int32, K v → post0 (some (.int v)) h) (T : Tt (f11_merriest h) K) : G ΛC x 0 [(0, .ref 0)] [] h := by
  refine g_bipush (v := (-2)) C dX11_merriest_0 (by decide) ?_
  refine g_istore_n (L' := [(1, .int (-2)), (0, .ref 0)]) C dX11_merriest_2 rfl (by decide) rfl ?_
  refine g_iconst (v := 0) C dX11_merriest_3 (by decide) ?_
  refine g_istore_n (L' := [(2, .int 0), (1, .int (-2)), (0, .ref 0)]) C dX11_merriest_4 rfl (by decide) rfl ?_
  refine g_iconst (v := 0) C dX11_merriest_5 (by decide) ?_
  refine g_istore_n (L' := [(3, .int 0), (2, .int 0), (1, .int (-2)), (0, .ref 0)]) C dX11_merriest_6 rfl (by decide) rfl ?_
  refine g_sub [3, 2, 1, 0] rfl ?_
  exact k_f11_merriest_7 C (-2) 0 0 h hR T

theorem ok_f11_merriest {l : Launch} {K : Int32 → Prop} (h : Hp) (T : Tt (f11_merriest h) K) : Ok ΛC l yX11_merriest cX11_merriest 4 (some .int) rm_f11_merriest [.ref 0] h (PIs K h) :=
  Ok.of RX11 rfl (by decide) ⟨rfl, rfl⟩ (Nat.le_of_ble_eq_true rfl) (fun x C => k_f11_merriest C h (fun v q => ⟨v, rfl, rfl, q⟩) T)

abbrev rm_f11_silent : Room := { frames := 1, cells := 0, slots := 0, locals := 20 }
noncomputable def f11_silent_36 (x1 : Int32) (x2 : Int32) (h : Hp) : Option ((Int32 × Int32) ⊕ (Int32)) :=
  some (.inl (x1, x2 + 1))
set_option maxRecDepth 100000 in
set_option maxHeartbeats 4000000 in
theorem k_f11_silent_36 {x : Mx} {l : Launch} {post0 : Option Value → Hp → Prop} (C : Cx ΛC x l RX11 cX11_silent rm_f11_silent (some .int) 3 post0) {K : (Int32 × Int32) ⊕ (Int32) → Prop} (x1 : Int32) (x2 : Int32) (h : Hp) (hR : ∀ v : Int32, K (.inr v) → post0 (some (.int v)) h) (hL4 : ∀ (x1 : Int32) (x2 : Int32), K (.inl (x1, x2)) → G ΛC x 4 [(0, .ref 0), (1, .int x1), (2, .int x2)] [] h) (T : Tt (f11_silent_36 x1 x2 h) K) : G ΛC x 36 [(0, .ref 0), (1, .int x1), (2, .int x2)] [] h := by
  refine g_iinc (v := x2 + 1) (q := 2) (L' := [(2, .int (x2 + 1)), (0, .ref 0), (1, .int x1)]) C dX11_silent_36 rfl (by first | rfl | exact congrArg _ (by decide)) (by decide) rfl ?_
  refine g_goto (tgt := 4) C dX11_silent_39 (by decide) ?_
  refine g_sub [1, 2, 0] rfl ?_
  exact hL4 _ _ (tt_some T)

noncomputable def f11_silent_4_s (x1 : Int32) (x2 : Int32) (h : Hp) : Option ((Int32 × Int32) ⊕ (Int32)) :=
  if h.1 6 1 ≤ x2 then (some (.inr x1)) else (gd (inb x2 6) <| (f0_isLetGo (8 + 2 * ix x2) h).bind fun r3 => if r3 = 0 then (lt (x1 ||| (1 <<< (x2 &&& 31))) fun v5 => f11_silent_36 v5 x2 h) else (f11_silent_36 x1 x2 h))
set_option maxRecDepth 100000 in
set_option maxHeartbeats 4000000 in
theorem k_f11_silent_4_s {x : Mx} {l : Launch} {post0 : Option Value → Hp → Prop} (C : Cx ΛC x l RX11 cX11_silent rm_f11_silent (some .int) 3 post0) {K : (Int32 × Int32) ⊕ (Int32) → Prop} (x1 : Int32) (x2 : Int32) (h : Hp) (hR : ∀ v : Int32, K (.inr v) → post0 (some (.int v)) h) (hL4 : ∀ (x1 : Int32) (x2 : Int32), K (.inl (x1, x2)) → G ΛC x 4 [(0, .ref 0), (1, .int x1), (2, .int x2)] [] h) (T : Tt (f11_silent_4_s x1 x2 h) K) : G ΛC x 4 [(0, .ref 0), (1, .int x1), (2, .int x2)] [] h := by
  refine g_iload_n (q := 2) C dX11_silent_4 rfl rfl ?_
  refine g_aload_n (q := 0) C dX11_silent_5 rfl rfl ?_
  refine g_getF (k := 2) (q := 6) C dX11_silent_6 (hpC rfl rfl) rfl fl_X11_30 rfl rfl ?_
  refine g_getI (k := 1) C dX11_silent_9 (hpC rfl rfl) rfl fl_X11_263 rfl ?_
  refine g_icmp_ge (tgt := 42) C dX11_silent_12 (by decide) (fun c1 => ?_) (fun c1 => ?_)
  · have T := tt_t T c1
    refine g_iload_n (q := 1) C dX11_silent_42 rfl rfl ?_
    exact g_iret C dX11_silent_43 (hR _ (tt_some T))
  · have T := tt_f T c1
    refine g_aload_n (q := 0) C dX11_silent_15 rfl rfl ?_
    refine g_getF (k := 2) (q := 6) C dX11_silent_16 (hpC rfl rfl) rfl fl_X11_30 rfl rfl ?_
    refine g_getF (k := 0) (q := 7) C dX11_silent_19 (hpC rfl rfl) rfl fl_X11_140 rfl rfl ?_
    refine g_iload_n (q := 2) C dX11_silent_22 rfl rfl ?_
    obtain ⟨g2, T⟩ := tt_gd T
    refine g_aald (q := 8 + 2 * ix x2) C dX11_silent_23 (hpC rfl rfl) rfl (inb_of rfl g2) rfl ?_
    refine g_callV (p := (8 + 2 * ix x2)) (As := []) C dX11_silent_24 ml_X11_275 yv_f0_isLetGo ⟨rfl, rfl⟩ ⟨Nat.le_of_ble_eq_true rfl, Nat.le_of_ble_eq_true rfl⟩ (hpC (kboxC (a := 7) rfl g2) rfl) (kboxC (a := 7) rfl g2) rfl rfl (Nat.le_of_ble_eq_true rfl) (ok_f0_isLetGo (8 + 2 * ix x2) (kboxC (a := 7) rfl g2) h (tt_bind T)) ?_
    rintro _ _ ⟨r3, rfl, rfl, T⟩
    show G ΛC x 27 [(0, .ref 0), (1, .int x1), (2, .int x2)] [.int r3] h
    refine g_if_ne (tgt := 36) C dX11_silent_27 (by decide) (fun c4 => ?_) (fun c4 => ?_)
    · have T := tt_f T c4
      exact k_f11_silent_36 C x1 x2 h hR hL4 T
    · have T := tt_t T c4
      refine g_iload_n (q := 1) C dX11_silent_30 rfl rfl ?_
      refine g_iconst (v := 1) C dX11_silent_31 (by decide) ?_
      refine g_iload_n (q := 2) C dX11_silent_32 rfl rfl ?_
      refine g_ishl C dX11_silent_33 ?_
      refine g_ior C dX11_silent_34 ?_
      obtain ⟨v5, ev5, T⟩ := tt_lt T
      refine g_nameI ev5 ?_
      refine g_istore_n (L' := [(1, .int v5), (0, .ref 0), (2, .int x2)]) C dX11_silent_35 rfl (by decide) rfl ?_
      refine g_sub [1, 0, 2] rfl ?_
      exact k_f11_silent_36 C v5 x2 h hR hL4 T

noncomputable def f11_silent_4 (x1 : Int32) (x2 : Int32) (h : Hp) : Option (Int32) := lp (fun z : Int32 × Int32 => f11_silent_4_s z.1 z.2 h) (x1, x2)
theorem k_f11_silent_4 {x : Mx} {l : Launch} {post0 : Option Value → Hp → Prop} (C : Cx ΛC x l RX11 cX11_silent rm_f11_silent (some .int) 3 post0) {K : Int32 → Prop} (x1 : Int32) (x2 : Int32) (h : Hp) (hR : ∀ v : Int32, K v → post0 (some (.int v)) h) (T : Tt (f11_silent_4 x1 x2 h) K) : G ΛC x 4 [(0, .ref 0), (1, .int x1), (2, .int x2)] [] h :=
  lp_ind (f := fun z : Int32 × Int32 => f11_silent_4_s z.1 z.2 h) (P := fun z : Int32 × Int32 => G ΛC x 4 [(0, .ref 0), (1, .int z.1), (2, .int z.2)] [] h) (K := K) (fun z T => k_f11_silent_4_s C (K := KS (fun z : Int32 × Int32 => G ΛC x 4 [(0, .ref 0), (1, .int z.1), (2, .int z.2)] [] h) K) z.1 z.2 h hR (fun _ _ q => q) T) (x1, x2) T
noncomputable def f11_silent (h : Hp) : Option (Int32) :=
  f11_silent_4 0 0 h
set_option maxRecDepth 100000 in
set_option maxHeartbeats 4000000 in
theorem k_f11_silent {x : Mx} {l : Launch} {post0 : Option Value → Hp → Prop} (C : Cx ΛC x l RX11 cX11_silent rm_f11_silent (some .int) 3 post0) {K : Int32 → Prop} (h : Hp) (hR : ∀ v : Int32, K v → post0 (some (.int v)) h) (T : Tt (f11_silent h) K) : G ΛC x 0 [(0, .ref 0)] [] h := by
  refine g_iconst (v := 0) C dX11_silent_0 (by decide) ?_
  refine g_istore_n (L' := [(1, .int 0), (0, .ref 0)]) C dX11_silent_1 rfl (by decide) rfl ?_
  refine g_iconst (v := 0) C dX11_silent_2 (by decide) ?_
  refine g_istore_n (L' := [(2, .int 0), (1, .int 0), (0, .ref 0)]) C dX11_silent_3 rfl (by decide) rfl ?_
  refine g_sub [2, 1, 0] rfl ?_
  exact k_f11_silent_4 C 0 0 h hR T

theorem ok_f11_silent {l : Launch} {K : Int32 → Prop} (h : Hp) (T : Tt (f11_silent h) K) : Ok ΛC l yX11_silent cX11_silent 3 (some .int) rm_f11_silent [.ref 0] h (PIs K h) :=
  Ok.of RX11 rfl (by decide) ⟨rfl, rfl⟩ (Nat.le_of_ble_eq_true rfl) (fun x C => k_f11_silent C h (fun v q => ⟨v, rfl, rfl, q⟩) T)

abbrev rm_f11_runDown : Room := { frames := 6, cells := 0, slots := 0, locals := 147 }
noncomputable def f11_runDown_80 (x1 : Int32) (x2 : Int32) (x3 : Int32) (h : Hp) : Option ((Int32 × Int32 × Hp) ⊕ (Int32 × Hp)) :=
  some (.inl (x2, x3 + 1, h))
set_option maxRecDepth 100000 in
set_option maxHeartbeats 4000000 in
theorem k_f11_runDown_80 {x : Mx} {l : Launch} {post0 : Option Value → Hp → Prop} (C : Cx ΛC x l RX11 cX11_runDown rm_f11_runDown (some .int) 4 post0) {K : (Int32 × Int32 × Hp) ⊕ (Int32 × Hp) → Prop} (x1 : Int32) (x2 : Int32) (x3 : Int32) (h : Hp) (hR : ∀ (v : Int32) (h : Hp), K (.inr (v, h)) → post0 (some (.int v)) h) (hL16 : ∀ (x2 : Int32) (x3 : Int32) (h : Hp), K (.inl (x2, x3, h)) → G ΛC x 16 [(0, .ref 0), (1, .int x1), (2, .int x2), (3, .int x3)] [] h) (T : Tt (f11_runDown_80 x1 x2 x3 h) K) : G ΛC x 80 [(0, .ref 0), (1, .int x1), (2, .int x2), (3, .int x3)] [] h := by
  refine g_iinc (v := x3 + 1) (q := 3) (L' := [(3, .int (x3 + 1)), (0, .ref 0), (1, .int x1), (2, .int x2)]) C dX11_runDown_80 rfl (by first | rfl | exact congrArg _ (by decide)) (by decide) rfl ?_
  refine g_goto (tgt := 16) C dX11_runDown_83 (by decide) ?_
  refine g_sub [1, 2, 3, 0] rfl ?_
  exact hL16 _ _ _ (tt_some T)

noncomputable def f11_runDown_16_s (x1 : Int32) (x2 : Int32) (x3 : Int32) (h : Hp) : Option ((Int32 × Int32 × Hp) ⊕ (Int32 × Hp)) :=
  if h.1 6 1 ≤ x3 then (some (.inr (x2, h))) else (gd (inb x3 6) <| (f0_copyOf 51 (8 + 2 * ix x3) h).bind fun h5 => (f11_goOnTrial x1 0 h5).bind fun h6 => if h6.1 51 5 = 0 then (gd (inb x3 6) <| if h6.1 (8 + 2 * ix x3) 5 ≤ 0 then (f11_runDown_80 x1 x2 x3 h6) else (lt (x2 ||| (1 <<< (x3 &&& 31))) fun v10 => f11_runDown_80 x1 v10 x3 h6)) else (f11_runDown_80 x1 x2 x3 h6))
set_option maxRecDepth 100000 in
set_option maxHeartbeats 4000000 in
theorem k_f11_runDown_16_s {x : Mx} {l : Launch} {post0 : Option Value → Hp → Prop} (C : Cx ΛC x l RX11 cX11_runDown rm_f11_runDown (some .int) 4 post0) {K : (Int32 × Int32 × Hp) ⊕ (Int32 × Hp) → Prop} (x1 : Int32) (x2 : Int32) (x3 : Int32) (h : Hp) (hR : ∀ (v : Int32) (h : Hp), K (.inr (v, h)) → post0 (some (.int v)) h) (hL16 : ∀ (x2 : Int32) (x3 : Int32) (h : Hp), K (.inl (x2, x3, h)) → G ΛC x 16 [(0, .ref 0), (1, .int x1), (2, .int x2), (3, .int x3)] [] h) (T : Tt (f11_runDown_16_s x1 x2 x3 h) K) : G ΛC x 16 [(0, .ref 0), (1, .int x1), (2, .int x2), (3, .int x3)] [] h := by
  refine g_iload_n (q := 3) C dX11_runDown_16 rfl rfl ?_
  refine g_aload_n (q := 0) C dX11_runDown_17 rfl rfl ?_
  refine g_getF (k := 2) (q := 6) C dX11_runDown_18 (hpC rfl rfl) rfl fl_X11_30 rfl rfl ?_
  refine g_getI (k := 1) C dX11_runDown_21 (hpC rfl rfl) rfl fl_X11_263 rfl ?_
  refine g_icmp_ge (tgt := 86) C dX11_runDown_24 (by decide) (fun c3 => ?_) (fun c3 => ?_)
  · have T := tt_t T c3
    refine g_iload_n (q := 2) C dX11_runDown_86 rfl rfl ?_
    exact g_iret C dX11_runDown_87 (hR _ _ (tt_some T))
  · have T := tt_f T c3
    refine g_aload_n (q := 0) C dX11_runDown_27 rfl rfl ?_
    refine g_getF (k := 8) (q := 51) C dX11_runDown_28 (hpC rfl rfl) rfl fl_X11_68 rfl rfl ?_
    refine g_aload_n (q := 0) C dX11_runDown_31 rfl rfl ?_
    refine g_getF (k := 2) (q := 6) C dX11_runDown_32 (hpC rfl rfl) rfl fl_X11_30 rfl rfl ?_
    refine g_getF (k := 0) (q := 7) C dX11_runDown_35 (hpC rfl rfl) rfl fl_X11_140 rfl rfl ?_
    refine g_iload_n (q := 3) C dX11_runDown_38 rfl rfl ?_
    obtain ⟨g4, T⟩ := tt_gd T
    refine g_aald (q := 8 + 2 * ix x3) C dX11_runDown_39 (hpC rfl rfl) rfl (inb_of rfl g4) rfl ?_
    refine g_callV (p := 51) (As := [.ref (8 + 2 * ix x3)]) C dX11_runDown_40 ml_X11_223 yv_f0_copyOf ⟨rfl, rfl⟩ ⟨Nat.le_of_ble_eq_true rfl, Nat.le_of_ble_eq_true rfl⟩ (hpC rfl rfl) rfl rfl rfl (Nat.le_of_ble_eq_true rfl) (ok_f0_copyOf 51 (8 + 2 * ix x3) rfl (kboxC (a := 7) rfl g4) h (tt_bind T)) ?_
    rintro _ h5 ⟨rfl, T⟩
    show G ΛC x 43 [(0, .ref 0), (1, .int x1), (2, .int x2), (3, .int x3)] [] h5
    refine g_aload_n (q := 0) C dX11_runDown_43 rfl rfl ?_
    refine g_iload_n (q := 1) C dX11_runDown_44 rfl rfl ?_
    refine g_iconst (v := 0) C dX11_runDown_45 (by decide) ?_
    refine g_callV (p := 0) (As := [.int x1, .int 0]) C dX11_runDown_46 ml_X11_227 yv_f11_goOnTrial ⟨rfl, rfl⟩ ⟨Nat.le_of_ble_eq_true rfl, Nat.le_of_ble_eq_true rfl⟩ (hpC rfl rfl) rfl rfl rfl (Nat.le_of_ble_eq_true rfl) (ok_f11_goOnTrial x1 0 h5 (tt_bind T)) ?_
    rintro _ h6 ⟨rfl, T⟩
    show G ΛC x 49 [(0, .ref 0), (1, .int x1), (2, .int x2), (3, .int x3)] [] h6
    refine g_aload_n (q := 0) C dX11_runDown_49 rfl rfl ?_
    refine g_getF (k := 8) (q := 51) C dX11_runDown_50 (hpC rfl rfl) rfl fl_X11_68 rfl rfl ?_
    refine g_getI (k := 5) C dX11_runDown_53 (hpC rfl rfl) rfl fl_X11_144 rfl ?_
    refine g_if_ne (tgt := 80) C dX11_runDown_56 (by decide) (fun c7 => ?_) (fun c7 => ?_)
    · have T := tt_f T c7
      exact k_f11_runDown_80 C x1 x2 x3 h6 hR hL16 T
    · have T := tt_t T c7
      refine g_aload_n (q := 0) C dX11_runDown_59 rfl rfl ?_
      refine g_getF (k := 2) (q := 6) C dX11_runDown_60 (hpC rfl rfl) rfl fl_X11_30 rfl rfl ?_
      refine g_getF (k := 0) (q := 7) C dX11_runDown_63 (hpC rfl rfl) rfl fl_X11_140 rfl rfl ?_
      refine g_iload_n (q := 3) C dX11_runDown_66 rfl rfl ?_
      obtain ⟨g8, T⟩ := tt_gd T
      refine g_aald (q := 8 + 2 * ix x3) C dX11_runDown_67 (hpC rfl rfl) rfl (inb_of rfl g8) rfl ?_
      refine g_getI (k := 5) C dX11_runDown_68 (hpC (kboxC (a := 7) rfl g8) rfl) (kboxC (a := 7) rfl g8) fl_X11_144 rfl ?_
      refine g_if_le (tgt := 80) C dX11_runDown_71 (by decide) (fun c9 => ?_) (fun c9 => ?_)
      · have T := tt_t T c9
        exact k_f11_runDown_80 C x1 x2 x3 h6 hR hL16 T
      · have T := tt_f T c9
        refine g_iload_n (q := 2) C dX11_runDown_74 rfl rfl ?_
        refine g_iconst (v := 1) C dX11_runDown_75 (by decide) ?_
        refine g_iload_n (q := 3) C dX11_runDown_76 rfl rfl ?_
        refine g_ishl C dX11_runDown_77 ?_
        refine g_ior C dX11_runDown_78 ?_
        obtain ⟨v10, ev10, T⟩ := tt_lt T
        refine g_nameI ev10 ?_
        refine g_istore_n (L' := [(2, .int v10), (0, .ref 0), (1, .int x1), (3, .int x3)]) C dX11_runDown_79 rfl (by decide) rfl ?_
        refine g_sub [1, 2, 0, 3] rfl ?_
        exact k_f11_runDown_80 C x1 v10 x3 h6 hR hL16 T

noncomputable def f11_runDown_16 (x1 : Int32) (x2 : Int32) (x3 : Int32) (h : Hp) : Option (Int32 × Hp) := lp (fun z : Int32 × Int32 × Hp => f11_runDown_16_s x1 z.1 z.2.1 z.2.2) (x2, x3, h)
theorem k_f11_runDown_16 {x : Mx} {l : Launch} {post0 : Option Value → Hp → Prop} (C : Cx ΛC x l RX11 cX11_runDown rm_f11_runDown (some .int) 4 post0) {K : Int32 × Hp → Prop} (x1 : Int32) (x2 : Int32) (x3 : Int32) (h : Hp) (hR : ∀ (v : Int32) (h : Hp), K (v, h) → post0 (some (.int v)) h) (T : Tt (f11_runDown_16 x1 x2 x3 h) K) : G ΛC x 16 [(0, .ref 0), (1, .int x1), (2, .int x2), (3, .int x3)] [] h :=
  lp_ind (f := fun z : Int32 × Int32 × Hp => f11_runDown_16_s x1 z.1 z.2.1 z.2.2) (P := fun z : Int32 × Int32 × Hp => G ΛC x 16 [(0, .ref 0), (1, .int x1), (2, .int z.1), (3, .int z.2.1)] [] z.2.2) (K := K) (fun z T => k_f11_runDown_16_s C (K := KS (fun z : Int32 × Int32 × Hp => G ΛC x 16 [(0, .ref 0), (1, .int x1), (2, .int z.1), (3, .int z.2.1)] [] z.2.2) K) x1 z.1 z.2.1 z.2.2 hR (fun _ _ _ q => q) T) (x2, x3, h) T
noncomputable def f11_runDown (x1 : Int32) (h : Hp) : Option (Int32 × Hp) :=
  (f11_isWithin x1 0 99).bind fun r1 => if r1 = 0 then (some ((-1), h)) else (f11_runDown_16 x1 0 0 h)
set_option maxRecDepth 100000 in
set_option maxHeartbeats 4000000 in
theorem k_f11_runDown {x : Mx} {l : Launch} {post0 : Option Value → Hp → Prop} (C : Cx ΛC x l RX11 cX11_runDown rm_f11_runDown (some .int) 4 post0) {K : Int32 × Hp → Prop} (x1 : Int32) (h : Hp) (hR : ∀ (v : Int32) (h : Hp), K (v, h) → post0 (some (.int v)) h) (T : Tt (f11_runDown x1 h) K) : G ΛC x 0 [(0, .ref 0), (1, .int x1)] [] h := by
  refine g_iload_n (q := 1) C dX11_runDown_0 rfl rfl ?_
  refine g_iconst (v := 0) C dX11_runDown_1 (by decide) ?_
  refine g_bipush (v := 99) C dX11_runDown_2 (by decide) ?_
  refine g_callS (As := [.int x1, .int 0, .int 99]) C dX11_runDown_4 ml_X11_170 ys_f11_isWithin ⟨rfl, rfl⟩ ⟨Nat.le_of_ble_eq_true rfl, Nat.le_of_ble_eq_true rfl⟩ rfl rfl (Nat.le_of_ble_eq_true rfl) (ok_f11_isWithin x1 0 99 h (tt_bind T)) ?_
  rintro _ _ ⟨r1, rfl, rfl, T⟩
  show G ΛC x 7 [(0, .ref 0), (1, .int x1)] [.int r1] h
  refine g_if_ne (tgt := 12) C dX11_runDown_7 (by decide) (fun c2 => ?_) (fun c2 => ?_)
  · have T := tt_f T c2
    refine g_iconst (v := 0) C dX11_runDown_12 (by decide) ?_
    refine g_istore_n (L' := [(2, .int 0), (0, .ref 0), (1, .int x1)]) C dX11_runDown_13 rfl (by decide) rfl ?_
    refine g_iconst (v := 0) C dX11_runDown_14 (by decide) ?_
    refine g_istore_n (L' := [(3, .int 0), (2, .int 0), (0, .ref 0), (1, .int x1)]) C dX11_runDown_15 rfl (by decide) rfl ?_
    refine g_sub [2, 3, 1, 0] rfl ?_
    exact k_f11_runDown_16 C x1 0 0 h hR T
  · have T := tt_t T c2
    refine g_iconst (v := (-1)) C dX11_runDown_10 (by decide) ?_
    exact g_iret C dX11_runDown_11 (hR _ _ (tt_some T))

theorem ok_f11_runDown {l : Launch} {K : Int32 × Hp → Prop} (x1 : Int32) (h : Hp) (T : Tt (f11_runDown x1 h) K) : Ok ΛC l yX11_runDown cX11_runDown 4 (some .int) rm_f11_runDown [.ref 0, .int x1] h (PIw K) :=
  Ok.of RX11 rfl (by decide) ⟨rfl, rfl⟩ (Nat.le_of_ble_eq_true rfl) (fun x C => k_f11_runDown C x1 h (fun v _ q => ⟨v, rfl, q⟩) T)

abbrev rm_f11_find : Room := { frames := 1, cells := 0, slots := 0, locals := 23 }
noncomputable def f11_find (x1 : Int32) (x2 : Int32) (x3 : Int32) (h : Hp) : Option (Int32 × Hp) :=
  (f11_isWithin x1 0 7).bind fun r1 => if r1 = 0 then (some ((-1), h)) else ((f11_isWithin x2 0 9).bind fun r3 => if r3 = 0 then (some ((-1), h)) else ((f3_add x1 x2 x3 h).bind fun (r5, h6) => some (r5, h6)))
set_option maxRecDepth 100000 in
set_option maxHeartbeats 4000000 in
theorem k_f11_find {x : Mx} {l : Launch} {post0 : Option Value → Hp → Prop} (C : Cx ΛC x l RX11 cX11_find rm_f11_find (some .int) 4 post0) {K : Int32 × Hp → Prop} (x1 : Int32) (x2 : Int32) (x3 : Int32) (h : Hp) (hR : ∀ (v : Int32) (h : Hp), K (v, h) → post0 (some (.int v)) h) (T : Tt (f11_find x1 x2 x3 h) K) : G ΛC x 0 [(0, .ref 0), (1, .int x1), (2, .int x2), (3, .int x3)] [] h := by
  refine g_iload_n (q := 1) C dX11_find_0 rfl rfl ?_
  refine g_iconst (v := 0) C dX11_find_1 (by decide) ?_
  refine g_bipush (v := 7) C dX11_find_2 (by decide) ?_
  refine g_callS (As := [.int x1, .int 0, .int 7]) C dX11_find_4 ml_X11_170 ys_f11_isWithin ⟨rfl, rfl⟩ ⟨Nat.le_of_ble_eq_true rfl, Nat.le_of_ble_eq_true rfl⟩ rfl rfl (Nat.le_of_ble_eq_true rfl) (ok_f11_isWithin x1 0 7 h (tt_bind T)) ?_
  rintro _ _ ⟨r1, rfl, rfl, T⟩
  show G ΛC x 7 [(0, .ref 0), (1, .int x1), (2, .int x2), (3, .int x3)] [.int r1] h
  refine g_if_eq (tgt := 20) C dX11_find_7 (by decide) (fun c2 => ?_) (fun c2 => ?_)
  · have T := tt_t T c2
    refine g_iconst (v := (-1)) C dX11_find_20 (by decide) ?_
    exact g_iret C dX11_find_21 (hR _ _ (tt_some T))
  · have T := tt_f T c2
    refine g_iload_n (q := 2) C dX11_find_10 rfl rfl ?_
    refine g_iconst (v := 0) C dX11_find_11 (by decide) ?_
    refine g_bipush (v := 9) C dX11_find_12 (by decide) ?_
    refine g_callS (As := [.int x2, .int 0, .int 9]) C dX11_find_14 ml_X11_170 ys_f11_isWithin ⟨rfl, rfl⟩ ⟨Nat.le_of_ble_eq_true rfl, Nat.le_of_ble_eq_true rfl⟩ rfl rfl (Nat.le_of_ble_eq_true rfl) (ok_f11_isWithin x2 0 9 h (tt_bind T)) ?_
    rintro _ _ ⟨r3, rfl, rfl, T⟩
    show G ΛC x 17 [(0, .ref 0), (1, .int x1), (2, .int x2), (3, .int x3)] [.int r3] h
    refine g_if_ne (tgt := 22) C dX11_find_17 (by decide) (fun c4 => ?_) (fun c4 => ?_)
    · have T := tt_f T c4
      refine g_aload_n (q := 0) C dX11_find_22 rfl rfl ?_
      refine g_getF (k := 5) (q := 39) C dX11_find_23 (hpC rfl rfl) rfl fl_X11_47 rfl rfl ?_
      refine g_iload_n (q := 1) C dX11_find_26 rfl rfl ?_
      refine g_iload_n (q := 2) C dX11_find_27 rfl rfl ?_
      refine g_iload_n (q := 3) C dX11_find_28 rfl rfl ?_
      refine g_callV (p := 39) (As := [.int x1, .int x2, .int x3]) C dX11_find_29 ml_X11_314 yv_f3_add ⟨rfl, rfl⟩ ⟨Nat.le_of_ble_eq_true rfl, Nat.le_of_ble_eq_true rfl⟩ (hpC rfl rfl) rfl rfl rfl (Nat.le_of_ble_eq_true rfl) (ok_f3_add x1 x2 x3 h (tt_bind T)) ?_
      rintro _ h6 ⟨r5, rfl, T⟩
      show G ΛC x 32 [(0, .ref 0), (1, .int x1), (2, .int x2), (3, .int x3)] [.int r5] h6
      exact g_iret C dX11_find_32 (hR _ _ (tt_some T))
    · have T := tt_t T c4
      refine g_iconst (v := (-1)) C dX11_find_20 (by decide) ?_
      exact g_iret C dX11_find_21 (hR _ _ (tt_some T))

theorem ok_f11_find {l : Launch} {K : Int32 × Hp → Prop} (x1 : Int32) (x2 : Int32) (x3 : Int32) (h : Hp) (T : Tt (f11_find x1 x2 x3 h) K) : Ok ΛC l yX11_find cX11_find 4 (some .int) rm_f11_find [.ref 0, .int x1, .int x2, .int x3] h (PIw K) :=
  Ok.of RX11 rfl (by decide) ⟨rfl, rfl⟩ (Nat.le_of_ble_eq_true rfl) (fun x C => k_f11_find C x1 x2 x3 h (fun v _ q => ⟨v, rfl, q⟩) T)

abbrev rm_f11_strike : Room := { frames := 2, cells := 0, slots := 0, locals := 45 }
noncomputable def f11_strike (x1 : Int32) (h : Hp) : Option (Int32 × Hp) :=
  (f11_isWithin x1 0 ((h.1 39 5) - 1)).bind fun r1 => if r1 = 0 then (some ((-1), h)) else ((f3_addStrike x1 h).bind fun (r3, h4) => some (r3, h4))
set_option maxRecDepth 100000 in
set_option maxHeartbeats 4000000 in
theorem k_f11_strike {x : Mx} {l : Launch} {post0 : Option Value → Hp → Prop} (C : Cx ΛC x l RX11 cX11_strike rm_f11_strike (some .int) 2 post0) {K : Int32 × Hp → Prop} (x1 : Int32) (h : Hp) (hR : ∀ (v : Int32) (h : Hp), K (v, h) → post0 (some (.int v)) h) (T : Tt (f11_strike x1 h) K) : G ΛC x 0 [(0, .ref 0), (1, .int x1)] [] h := by
  refine g_iload_n (q := 1) C dX11_strike_0 rfl rfl ?_
  refine g_iconst (v := 0) C dX11_strike_1 (by decide) ?_
  refine g_aload_n (q := 0) C dX11_strike_2 rfl rfl ?_
  refine g_getF (k := 5) (q := 39) C dX11_strike_3 (hpC rfl rfl) rfl fl_X11_47 rfl rfl ?_
  refine g_getI (k := 5) C dX11_strike_6 (hpC rfl rfl) rfl fl_X11_318 rfl ?_
  refine g_iconst (v := 1) C dX11_strike_9 (by decide) ?_
  refine g_isub C dX11_strike_10 ?_
  refine g_callS (As := [.int x1, .int 0, .int ((h.1 39 5) - 1)]) C dX11_strike_11 ml_X11_170 ys_f11_isWithin ⟨rfl, rfl⟩ ⟨Nat.le_of_ble_eq_true rfl, Nat.le_of_ble_eq_true rfl⟩ rfl rfl (Nat.le_of_ble_eq_true rfl) (ok_f11_isWithin x1 0 ((h.1 39 5) - 1) h (tt_bind T)) ?_
  rintro _ _ ⟨r1, rfl, rfl, T⟩
  show G ΛC x 14 [(0, .ref 0), (1, .int x1)] [.int r1] h
  refine g_if_eq (tgt := 28) C dX11_strike_14 (by decide) (fun c2 => ?_) (fun c2 => ?_)
  · have T := tt_t T c2
    refine g_iconst (v := (-1)) C dX11_strike_28 (by decide) ?_
    exact g_iret C dX11_strike_29 (hR _ _ (tt_some T))
  · have T := tt_f T c2
    refine g_aload_n (q := 0) C dX11_strike_17 rfl rfl ?_
    refine g_getF (k := 5) (q := 39) C dX11_strike_18 (hpC rfl rfl) rfl fl_X11_47 rfl rfl ?_
    refine g_iload_n (q := 1) C dX11_strike_21 rfl rfl ?_
    refine g_callV (p := 39) (As := [.int x1]) C dX11_strike_22 ml_X11_319 yv_f3_addStrike ⟨rfl, rfl⟩ ⟨Nat.le_of_ble_eq_true rfl, Nat.le_of_ble_eq_true rfl⟩ (hpC rfl rfl) rfl rfl rfl (Nat.le_of_ble_eq_true rfl) (ok_f3_addStrike x1 h (tt_bind T)) ?_
    rintro _ h4 ⟨r3, rfl, T⟩
    show G ΛC x 25 [(0, .ref 0), (1, .int x1)] [.int r3] h4
    refine g_goto (tgt := 29) C dX11_strike_25 (by decide) ?_
    exact g_iret C dX11_strike_29 (hR _ _ (tt_some T))

theorem ok_f11_strike {l : Launch} {K : Int32 × Hp → Prop} (x1 : Int32) (h : Hp) (T : Tt (f11_strike x1 h) K) : Ok ΛC l yX11_strike cX11_strike 2 (some .int) rm_f11_strike [.ref 0, .int x1] h (PIw K) :=
  Ok.of RX11 rfl (by decide) ⟨rfl, rfl⟩ (Nat.le_of_ble_eq_true rfl) (fun x C => k_f11_strike C x1 h (fun v _ q => ⟨v, rfl, q⟩) T)

abbrev rm_f11_known : Room := { frames := 1, cells := 0, slots := 0, locals := 22 }
noncomputable def f11_known (x1 : Int32) (h : Hp) : Option (Int32 × Hp) :=
  (f11_isWithin x1 (-1) (h.1 39 5)).bind fun r1 => if r1 = 0 then (some (0, h)) else (lt (wI h 39 6 x1) fun h3 => some (1, h3))
set_option maxRecDepth 100000 in
set_option maxHeartbeats 4000000 in
theorem k_f11_known {x : Mx} {l : Launch} {post0 : Option Value → Hp → Prop} (C : Cx ΛC x l RX11 cX11_known rm_f11_known (some .boolean) 2 post0) {K : Int32 × Hp → Prop} (x1 : Int32) (h : Hp) (hR : ∀ (v : Int32) (h : Hp), K (v, h) → post0 (some (.int v)) h) (T : Tt (f11_known x1 h) K) : G ΛC x 0 [(0, .ref 0), (1, .int x1)] [] h := by
  refine g_iload_n (q := 1) C dX11_known_0 rfl rfl ?_
  refine g_iconst (v := (-1)) C dX11_known_1 (by decide) ?_
  refine g_aload_n (q := 0) C dX11_known_2 rfl rfl ?_
  refine g_getF (k := 5) (q := 39) C dX11_known_3 (hpC rfl rfl) rfl fl_X11_47 rfl rfl ?_
  refine g_getI (k := 5) C dX11_known_6 (hpC rfl rfl) rfl fl_X11_318 rfl ?_
  refine g_callS (As := [.int x1, .int (-1), .int (h.1 39 5)]) C dX11_known_9 ml_X11_170 ys_f11_isWithin ⟨rfl, rfl⟩ ⟨Nat.le_of_ble_eq_true rfl, Nat.le_of_ble_eq_true rfl⟩ rfl rfl (Nat.le_of_ble_eq_true rfl) (ok_f11_isWithin x1 (-1) (h.1 39 5) h (tt_bind T)) ?_
  rintro _ _ ⟨r1, rfl, rfl, T⟩
  show G ΛC x 12 [(0, .ref 0), (1, .int x1)] [.int r1] h
  refine g_if_ne (tgt := 17) C dX11_known_12 (by decide) (fun c2 => ?_) (fun c2 => ?_)
  · have T := tt_f T c2
    refine g_aload_n (q := 0) C dX11_known_17 rfl rfl ?_
    refine g_getF (k := 5) (q := 39) C dX11_known_18 (hpC rfl rfl) rfl fl_X11_47 rfl rfl ?_
    refine g_iload_n (q := 1) C dX11_known_21 rfl rfl ?_
    obtain ⟨h3, eh3, T⟩ := tt_lt T
    refine g_putI (k := 6) C dX11_known_22 (hpC rfl rfl) rfl fp_X11_322 rfl eh3 ?_
    refine g_iconst (v := 1) C dX11_known_25 (by decide) ?_
    exact g_zret C dX11_known_26 (Or.inr rfl) (hR _ _ (tt_some T))
  · have T := tt_t T c2
    refine g_iconst (v := 0) C dX11_known_15 (by decide) ?_
    exact g_zret C dX11_known_16 (Or.inl rfl) (hR _ _ (tt_some T))

theorem ok_f11_known {l : Launch} {K : Int32 × Hp → Prop} (x1 : Int32) (h : Hp) (T : Tt (f11_known x1 h) K) : Ok ΛC l yX11_known cX11_known 2 (some .boolean) rm_f11_known [.ref 0, .int x1] h (PIw K) :=
  Ok.of RX11 rfl (by decide) ⟨rfl, rfl⟩ (Nat.le_of_ble_eq_true rfl) (fun x C => k_f11_known C x1 h (fun v _ q => ⟨v, rfl, q⟩) T)

abbrev rm_f11_sours : Room := { frames := 3, cells := 0, slots := 0, locals := 67 }
noncomputable def f11_sours_55 (x1 : Int32) (x2 : Int32) (x3 : Int32) (h : Hp) : Option ((Int32 × Int32) ⊕ (Int32 × Hp)) :=
  some (.inl (x2, x3 + 1))
set_option maxRecDepth 100000 in
set_option maxHeartbeats 4000000 in
theorem k_f11_sours_55 {x : Mx} {l : Launch} {post0 : Option Value → Hp → Prop} (C : Cx ΛC x l RX11 cX11_sours rm_f11_sours (some .int) 4 post0) {K : (Int32 × Int32) ⊕ (Int32 × Hp) → Prop} (x1 : Int32) (x2 : Int32) (x3 : Int32) (h : Hp) (hR : ∀ (v : Int32) (h : Hp), K (.inr (v, h)) → post0 (some (.int v)) h) (hL21 : ∀ (x2 : Int32) (x3 : Int32), K (.inl (x2, x3)) → G ΛC x 21 [(0, .ref 0), (1, .int x1), (2, .int x2), (3, .int x3)] [] h) (T : Tt (f11_sours_55 x1 x2 x3 h) K) : G ΛC x 55 [(0, .ref 0), (1, .int x1), (2, .int x2), (3, .int x3)] [] h := by
  refine g_iinc (v := x3 + 1) (q := 3) (L' := [(3, .int (x3 + 1)), (0, .ref 0), (1, .int x1), (2, .int x2)]) C dX11_sours_55 rfl (by first | rfl | exact congrArg _ (by decide)) (by decide) rfl ?_
  refine g_goto (tgt := 21) C dX11_sours_58 (by decide) ?_
  refine g_sub [1, 2, 3, 0] rfl ?_
  exact hL21 _ _ (tt_some T)

noncomputable def f11_sours_21_s (x1 : Int32) (x2 : Int32) (x3 : Int32) (h : Hp) : Option ((Int32 × Int32) ⊕ (Int32 × Hp)) :=
  if 10 ≤ x3 then (some (.inr (x2, h))) else (gd (inb x1 6) <| (f3_fit (8 + 2 * ix x1) (5 * x3) h).bind fun r6 => if r6 = 0 then (f11_sours_55 x1 x2 x3 h) else (lt (x2 ||| (1 <<< (x3 &&& 31))) fun v8 => f11_sours_55 x1 v8 x3 h))
set_option maxRecDepth 100000 in
set_option maxHeartbeats 4000000 in
theorem k_f11_sours_21_s {x : Mx} {l : Launch} {post0 : Option Value → Hp → Prop} (C : Cx ΛC x l RX11 cX11_sours rm_f11_sours (some .int) 4 post0) {K : (Int32 × Int32) ⊕ (Int32 × Hp) → Prop} (x1 : Int32) (x2 : Int32) (x3 : Int32) (h : Hp) (hR : ∀ (v : Int32) (h : Hp), K (.inr (v, h)) → post0 (some (.int v)) h) (hL21 : ∀ (x2 : Int32) (x3 : Int32), K (.inl (x2, x3)) → G ΛC x 21 [(0, .ref 0), (1, .int x1), (2, .int x2), (3, .int x3)] [] h) (T : Tt (f11_sours_21_s x1 x2 x3 h) K) : G ΛC x 21 [(0, .ref 0), (1, .int x1), (2, .int x2), (3, .int x3)] [] h := by
  refine g_iload_n (q := 3) C dX11_sours_21 rfl rfl ?_
  refine g_bipush (v := 10) C dX11_sours_22 (by decide) ?_
  refine g_icmp_ge (tgt := 61) C dX11_sours_24 (by decide) (fun c4 => ?_) (fun c4 => ?_)
  · have T := tt_t T c4
    refine g_iload_n (q := 2) C dX11_sours_61 rfl rfl ?_
    exact g_iret C dX11_sours_62 (hR _ _ (tt_some T))
  · have T := tt_f T c4
    refine g_aload_n (q := 0) C dX11_sours_27 rfl rfl ?_
    refine g_getF (k := 5) (q := 39) C dX11_sours_28 (hpC rfl rfl) rfl fl_X11_47 rfl rfl ?_
    refine g_aload_n (q := 0) C dX11_sours_31 rfl rfl ?_
    refine g_getF (k := 2) (q := 6) C dX11_sours_32 (hpC rfl rfl) rfl fl_X11_30 rfl rfl ?_
    refine g_getF (k := 0) (q := 7) C dX11_sours_35 (hpC rfl rfl) rfl fl_X11_140 rfl rfl ?_
    refine g_iload_n (q := 1) C dX11_sours_38 rfl rfl ?_
    obtain ⟨g5, T⟩ := tt_gd T
    refine g_aald (q := 8 + 2 * ix x1) C dX11_sours_39 (hpC rfl rfl) rfl (inb_of rfl g5) rfl ?_
    refine g_iconst (v := 5) C dX11_sours_40 (by decide) ?_
    refine g_iload_n (q := 3) C dX11_sours_41 rfl rfl ?_
    refine g_imul C dX11_sours_42 ?_
    refine g_callV (p := 39) (As := [.ref (8 + 2 * ix x1), .int (5 * x3)]) C dX11_sours_43 ml_X11_328 yv_f3_fit ⟨rfl, rfl⟩ ⟨Nat.le_of_ble_eq_true rfl, Nat.le_of_ble_eq_true rfl⟩ (hpC rfl rfl) rfl rfl rfl (Nat.le_of_ble_eq_true rfl) (ok_f3_fit (8 + 2 * ix x1) (5 * x3) (kboxC (a := 7) rfl g5) h (tt_bind T)) ?_
    rintro _ _ ⟨r6, rfl, rfl, T⟩
    show G ΛC x 46 [(0, .ref 0), (1, .int x1), (2, .int x2), (3, .int x3)] [.int r6] h
    refine g_if_eq (tgt := 55) C dX11_sours_46 (by decide) (fun c7 => ?_) (fun c7 => ?_)
    · have T := tt_t T c7
      exact k_f11_sours_55 C x1 x2 x3 h hR hL21 T
    · have T := tt_f T c7
      refine g_iload_n (q := 2) C dX11_sours_49 rfl rfl ?_
      refine g_iconst (v := 1) C dX11_sours_50 (by decide) ?_
      refine g_iload_n (q := 3) C dX11_sours_51 rfl rfl ?_
      refine g_ishl C dX11_sours_52 ?_
      refine g_ior C dX11_sours_53 ?_
      obtain ⟨v8, ev8, T⟩ := tt_lt T
      refine g_nameI ev8 ?_
      refine g_istore_n (L' := [(2, .int v8), (0, .ref 0), (1, .int x1), (3, .int x3)]) C dX11_sours_54 rfl (by decide) rfl ?_
      refine g_sub [1, 2, 0, 3] rfl ?_
      exact k_f11_sours_55 C x1 v8 x3 h hR hL21 T

noncomputable def f11_sours_21 (x1 : Int32) (x2 : Int32) (x3 : Int32) (h : Hp) : Option (Int32 × Hp) := lp (fun z : Int32 × Int32 => f11_sours_21_s x1 z.1 z.2 h) (x2, x3)
theorem k_f11_sours_21 {x : Mx} {l : Launch} {post0 : Option Value → Hp → Prop} (C : Cx ΛC x l RX11 cX11_sours rm_f11_sours (some .int) 4 post0) {K : Int32 × Hp → Prop} (x1 : Int32) (x2 : Int32) (x3 : Int32) (h : Hp) (hR : ∀ (v : Int32) (h : Hp), K (v, h) → post0 (some (.int v)) h) (T : Tt (f11_sours_21 x1 x2 x3 h) K) : G ΛC x 21 [(0, .ref 0), (1, .int x1), (2, .int x2), (3, .int x3)] [] h :=
  lp_ind (f := fun z : Int32 × Int32 => f11_sours_21_s x1 z.1 z.2 h) (P := fun z : Int32 × Int32 => G ΛC x 21 [(0, .ref 0), (1, .int x1), (2, .int z.1), (3, .int z.2)] [] h) (K := K) (fun z T => k_f11_sours_21_s C (K := KS (fun z : Int32 × Int32 => G ΛC x 21 [(0, .ref 0), (1, .int x1), (2, .int z.1), (3, .int z.2)] [] h) K) x1 z.1 z.2 h hR (fun _ _ q => q) T) (x2, x3) T
noncomputable def f11_sours (x1 : Int32) (h : Hp) : Option (Int32 × Hp) :=
  (f11_isBox x1 h).bind fun r1 => if r1 = 0 then (some ((-1), h)) else ((f3_sift h).bind fun h3 => f11_sours_21 x1 0 0 h3)
set_option maxRecDepth 100000 in
set_option maxHeartbeats 4000000 in
theorem k_f11_sours {x : Mx} {l : Launch} {post0 : Option Value → Hp → Prop} (C : Cx ΛC x l RX11 cX11_sours rm_f11_sours (some .int) 4 post0) {K : Int32 × Hp → Prop} (x1 : Int32) (h : Hp) (hR : ∀ (v : Int32) (h : Hp), K (v, h) → post0 (some (.int v)) h) (T : Tt (f11_sours x1 h) K) : G ΛC x 0 [(0, .ref 0), (1, .int x1)] [] h := by
  refine g_aload_n (q := 0) C dX11_sours_0 rfl rfl ?_
  refine g_iload_n (q := 1) C dX11_sours_1 rfl rfl ?_
  refine g_callV (p := 0) (As := [.int x1]) C dX11_sours_2 ml_X11_129 yv_f11_isBox ⟨rfl, rfl⟩ ⟨Nat.le_of_ble_eq_true rfl, Nat.le_of_ble_eq_true rfl⟩ (hpC rfl rfl) rfl rfl rfl (Nat.le_of_ble_eq_true rfl) (ok_f11_isBox x1 h (tt_bind T)) ?_
  rintro _ _ ⟨r1, rfl, rfl, T⟩
  show G ΛC x 5 [(0, .ref 0), (1, .int x1)] [.int r1] h
  refine g_if_ne (tgt := 10) C dX11_sours_5 (by decide) (fun c2 => ?_) (fun c2 => ?_)
  · have T := tt_f T c2
    refine g_aload_n (q := 0) C dX11_sours_10 rfl rfl ?_
    refine g_getF (k := 5) (q := 39) C dX11_sours_11 (hpC rfl rfl) rfl fl_X11_47 rfl rfl ?_
    refine g_callV (p := 39) (As := []) C dX11_sours_14 ml_X11_325 yv_f3_sift ⟨rfl, rfl⟩ ⟨Nat.le_of_ble_eq_true rfl, Nat.le_of_ble_eq_true rfl⟩ (hpC rfl rfl) rfl rfl rfl (Nat.le_of_ble_eq_true rfl) (ok_f3_sift h (tt_bind T)) ?_
    rintro _ h3 ⟨rfl, T⟩
    show G ΛC x 17 [(0, .ref 0), (1, .int x1)] [] h3
    refine g_iconst (v := 0) C dX11_sours_17 (by decide) ?_
    refine g_istore_n (L' := [(2, .int 0), (0, .ref 0), (1, .int x1)]) C dX11_sours_18 rfl (by decide) rfl ?_
    refine g_iconst (v := 0) C dX11_sours_19 (by decide) ?_
    refine g_istore_n (L' := [(3, .int 0), (2, .int 0), (0, .ref 0), (1, .int x1)]) C dX11_sours_20 rfl (by decide) rfl ?_
    refine g_sub [2, 3, 1, 0] rfl ?_
    exact k_f11_sours_21 C x1 0 0 h3 hR T
  · have T := tt_t T c2
    refine g_iconst (v := (-1)) C dX11_sours_8 (by decide) ?_
    exact g_iret C dX11_sours_9 (hR _ _ (tt_some T))

theorem ok_f11_sours {l : Launch} {K : Int32 × Hp → Prop} (x1 : Int32) (h : Hp) (T : Tt (f11_sours x1 h) K) : Ok ΛC l yX11_sours cX11_sours 4 (some .int) rm_f11_sours [.ref 0, .int x1] h (PIw K) :=
  Ok.of RX11 rfl (by decide) ⟨rfl, rfl⟩ (Nat.le_of_ble_eq_true rfl) (fun x C => k_f11_sours C x1 h (fun v _ q => ⟨v, rfl, q⟩) T)

abbrev rm_f11_drawOnTrial : Room := { frames := 5, cells := 0, slots := 0, locals := 124 }
noncomputable def f11_drawOnTrial_29 (x2 : Int32) (x4 : Int32) (s0 : Int32) (h : Hp) : Option ((Int32 × Int32 × Hp) ⊕ (Int32 × Hp)) :=
  (h.2.2 0 11).bind fun p6 => gd (decide (kdC p6 = 10)) <| (h.2.2 0 11).bind fun p8 => gd (decide (kdC p8 = 10)) <| (f10_isDampBy p8 s0 h).bind fun r10 => (f0_goOneYear 51 (p6 + 14) ((h.1 6 2) + x4) r10 0 h).bind fun h11 => some (.inl (s0, x4 + 1, h11))
set_option maxRecDepth 100000 in
set_option maxHeartbeats 4000000 in
theorem k_f11_drawOnTrial_29 {x : Mx} {l : Launch} {post0 : Option Value → Hp → Prop} (C : Cx ΛC x l RX11 cX11_drawOnTrial rm_f11_drawOnTrial (some .int) 5 post0) {K : (Int32 × Int32 × Hp) ⊕ (Int32 × Hp) → Prop} (x2 : Int32) (x4 : Int32) (s0 : Int32) (h : Hp) (hR : ∀ (v : Int32) (h : Hp), K (.inr (v, h)) → post0 (some (.int v)) h) (hL5 : ∀ (x3 : Int32) (x4 : Int32) (h : Hp), K (.inl (x3, x4, h)) → G ΛC x 5 [(0, .ref 0), (2, .int x2), (3, .int x3), (4, .int x4)] [] h) (T : Tt (f11_drawOnTrial_29 x2 x4 s0 h) K) : G ΛC x 29 [(0, .ref 0), (2, .int x2), (4, .int x4)] [.int s0] h := by
  refine g_istore_n (L' := [(3, .int s0), (0, .ref 0), (2, .int x2), (4, .int x4)]) C dX11_drawOnTrial_29 rfl (by decide) rfl ?_
  refine g_aload_n (q := 1) C dX11_drawOnTrial_30 rfl rfl ?_
  refine g_getF (k := 8) (q := 51) C dX11_drawOnTrial_31 (hpC rfl rfl) rfl fl_X11_68 rfl rfl ?_
  refine g_aload_n (q := 1) C dX11_drawOnTrial_34 rfl rfl ?_
  obtain ⟨p6, ep6, T⟩ := tt_bind T
  obtain ⟨g7, T⟩ := tt_gd T
  have kp6 : kdC p6 = 10 := of_decide_eq_true g7
  refine g_getD (k := 11) (q := p6) C dX11_drawOnTrial_35 (hpC rfl rfl) rfl fl_X11_82 rfl ep6 ?_
  refine g_getF (k := 1) (q := p6 + 14) C dX11_drawOnTrial_38 (hpC kp6 rfl) kp6 fl_X11_194 rfl rfl ?_
  refine g_aload_n (q := 1) C dX11_drawOnTrial_41 rfl rfl ?_
  refine g_getF (k := 2) (q := 6) C dX11_drawOnTrial_42 (hpC rfl rfl) rfl fl_X11_30 rfl rfl ?_
  refine g_getI (k := 2) C dX11_drawOnTrial_45 (hpC rfl rfl) rfl fl_X11_198 rfl ?_
  refine g_iload (q := 3) C dX11_drawOnTrial_48 rfl ?_
  refine g_iadd C dX11_drawOnTrial_50 ?_
  refine g_aload_n (q := 1) C dX11_drawOnTrial_51 rfl rfl ?_
  obtain ⟨p8, ep8, T⟩ := tt_bind T
  obtain ⟨g9, T⟩ := tt_gd T
  have kp8 : kdC p8 = 10 := of_decide_eq_true g9
  refine g_getD (k := 11) (q := p8) C dX11_drawOnTrial_52 (hpC rfl rfl) rfl fl_X11_82 rfl ep8 ?_
  refine g_iload_n (q := 0) C dX11_drawOnTrial_55 rfl rfl ?_
  refine g_callV (p := p8) (As := [.int s0]) C dX11_drawOnTrial_56 ml_X11_373 yv_f10_isDampBy ⟨rfl, rfl⟩ ⟨Nat.le_of_ble_eq_true rfl, Nat.le_of_ble_eq_true rfl⟩ (hpC kp8 rfl) kp8 rfl rfl (Nat.le_of_ble_eq_true rfl) (ok_f10_isDampBy p8 s0 kp8 h (tt_bind T)) ?_
  rintro _ _ ⟨r10, rfl, rfl, T⟩
  show G ΛC x 59 [(3, .int s0), (0, .ref 0), (2, .int x2), (4, .int x4)] [.int r10, .int ((h.1 6 2) + x4), .ref (p6 + 14), .ref 51] h
  refine g_iconst (v := 0) C dX11_drawOnTrial_59 (by decide) ?_
  refine g_callV (p := 51) (As := [.ref (p6 + 14), .int ((h.1 6 2) + x4), .int r10, .int 0]) C dX11_drawOnTrial_60 ml_X11_282 yv_f0_goOneYear ⟨rfl, rfl⟩ ⟨Nat.le_of_ble_eq_true rfl, Nat.le_of_ble_eq_true rfl⟩ (hpC rfl rfl) rfl rfl rfl (Nat.le_of_ble_eq_true rfl) (ok_f0_goOneYear 51 (p6 + 14) ((h.1 6 2) + x4) r10 0 rfl (kf_10_1 kp6) h (tt_bind T)) ?_
  rintro _ h11 ⟨rfl, T⟩
  show G ΛC x 63 [(3, .int s0), (0, .ref 0), (2, .int x2), (4, .int x4)] [] h11
  refine g_iinc (v := x4 + 1) (q := 3) (L' := [(4, .int (x4 + 1)), (3, .int s0), (0, .ref 0), (2, .int x2)]) C dX11_drawOnTrial_63 rfl (by first | rfl | exact congrArg _ (by decide)) (by decide) rfl ?_
  refine g_goto (tgt := 5) C dX11_drawOnTrial_66 (by decide) ?_
  refine g_sub [2, 3, 1, 0] rfl ?_
  exact hL5 _ _ _ (tt_some T)

noncomputable def f11_drawOnTrial_5_s (x2 : Int32) (x3 : Int32) (x4 : Int32) (h : Hp) : Option ((Int32 × Int32 × Hp) ⊕ (Int32 × Hp)) :=
  if x2 ≤ x4 then (some (.inr (x3, h))) else ((h.2.2 0 11).bind fun p2 => gd (decide (kdC p2 = 10)) <| (f10_isDrawn p2 h).bind fun r4 => if r4 = 0 then (f11_drawOnTrial_29 x2 x4 x3 h) else ((f9_nextNumber x3).bind fun r12 => f11_drawOnTrial_29 x2 x4 r12 h))
set_option maxRecDepth 100000 in
set_option maxHeartbeats 4000000 in
theorem k_f11_drawOnTrial_5_s {x : Mx} {l : Launch} {post0 : Option Value → Hp → Prop} (C : Cx ΛC x l RX11 cX11_drawOnTrial rm_f11_drawOnTrial (some .int) 5 post0) {K : (Int32 × Int32 × Hp) ⊕ (Int32 × Hp) → Prop} (x2 : Int32) (x3 : Int32) (x4 : Int32) (h : Hp) (hR : ∀ (v : Int32) (h : Hp), K (.inr (v, h)) → post0 (some (.int v)) h) (hL5 : ∀ (x3 : Int32) (x4 : Int32) (h : Hp), K (.inl (x3, x4, h)) → G ΛC x 5 [(0, .ref 0), (2, .int x2), (3, .int x3), (4, .int x4)] [] h) (T : Tt (f11_drawOnTrial_5_s x2 x3 x4 h) K) : G ΛC x 5 [(0, .ref 0), (2, .int x2), (3, .int x3), (4, .int x4)] [] h := by
  refine g_iload (q := 3) C dX11_drawOnTrial_5 rfl ?_
  refine g_iload_n (q := 1) C dX11_drawOnTrial_7 rfl rfl ?_
  refine g_icmp_ge (tgt := 69) C dX11_drawOnTrial_8 (by decide) (fun c1 => ?_) (fun c1 => ?_)
  · have T := tt_t T c1
    refine g_iload_n (q := 2) C dX11_drawOnTrial_69 rfl rfl ?_
    exact g_iret C dX11_drawOnTrial_70 (hR _ _ (tt_some T))
  · have T := tt_f T c1
    refine g_aload_n (q := 0) C dX11_drawOnTrial_11 rfl rfl ?_
    obtain ⟨p2, ep2, T⟩ := tt_bind T
    obtain ⟨g3, T⟩ := tt_gd T
    have kp2 : kdC p2 = 10 := of_decide_eq_true g3
    refine g_getD (k := 11) (q := p2) C dX11_drawOnTrial_12 (hpC rfl rfl) rfl fl_X11_82 rfl ep2 ?_
    refine g_callV (p := p2) (As := []) C dX11_drawOnTrial_15 ml_X11_367 yv_f10_isDrawn ⟨rfl, rfl⟩ ⟨Nat.le_of_ble_eq_true rfl, Nat.le_of_ble_eq_true rfl⟩ (hpC kp2 rfl) kp2 rfl rfl (Nat.le_of_ble_eq_true rfl) (ok_f10_isDrawn p2 kp2 h (tt_bind T)) ?_
    rintro _ _ ⟨r4, rfl, rfl, T⟩
    show G ΛC x 18 [(0, .ref 0), (2, .int x2), (3, .int x3), (4, .int x4)] [.int r4] h
    refine g_if_eq (tgt := 28) C dX11_drawOnTrial_18 (by decide) (fun c5 => ?_) (fun c5 => ?_)
    · have T := tt_t T c5
      refine g_iload_n (q := 2) C dX11_drawOnTrial_28 rfl rfl ?_
      refine g_sub [0, 1, 3] rfl ?_
      exact k_f11_drawOnTrial_29 C x2 x4 x3 h hR hL5 T
    · have T := tt_f T c5
      refine g_iload_n (q := 2) C dX11_drawOnTrial_21 rfl rfl ?_
      refine g_callS (As := [.int x3]) C dX11_drawOnTrial_22 ml_X11_370 ys_f9_nextNumber ⟨rfl, rfl⟩ ⟨Nat.le_of_ble_eq_true rfl, Nat.le_of_ble_eq_true rfl⟩ rfl rfl (Nat.le_of_ble_eq_true rfl) (ok_f9_nextNumber x3 h (tt_bind T)) ?_
      rintro _ _ ⟨r12, rfl, rfl, T⟩
      show G ΛC x 25 [(0, .ref 0), (2, .int x2), (3, .int x3), (4, .int x4)] [.int r12] h
      refine g_goto (tgt := 29) C dX11_drawOnTrial_25 (by decide) ?_
      refine g_sub [0, 1, 3] rfl ?_
      exact k_f11_drawOnTrial_29 C x2 x4 r12 h hR hL5 T

noncomputable def f11_drawOnTrial_5 (x2 : Int32) (x3 : Int32) (x4 : Int32) (h : Hp) : Option (Int32 × Hp) := lp (fun z : Int32 × Int32 × Hp => f11_drawOnTrial_5_s x2 z.1 z.2.1 z.2.2) (x3, x4, h)
theorem k_f11_drawOnTrial_5 {x : Mx} {l : Launch} {post0 : Option Value → Hp → Prop} (C : Cx ΛC x l RX11 cX11_drawOnTrial rm_f11_drawOnTrial (some .int) 5 post0) {K : Int32 × Hp → Prop} (x2 : Int32) (x3 : Int32) (x4 : Int32) (h : Hp) (hR : ∀ (v : Int32) (h : Hp), K (v, h) → post0 (some (.int v)) h) (T : Tt (f11_drawOnTrial_5 x2 x3 x4 h) K) : G ΛC x 5 [(0, .ref 0), (2, .int x2), (3, .int x3), (4, .int x4)] [] h :=
  lp_ind (f := fun z : Int32 × Int32 × Hp => f11_drawOnTrial_5_s x2 z.1 z.2.1 z.2.2) (P := fun z : Int32 × Int32 × Hp => G ΛC x 5 [(0, .ref 0), (2, .int x2), (3, .int z.1), (4, .int z.2.1)] [] z.2.2) (K := K) (fun z T => k_f11_drawOnTrial_5_s C (K := KS (fun z : Int32 × Int32 × Hp => G ΛC x 5 [(0, .ref 0), (2, .int x2), (3, .int z.1), (4, .int z.2.1)] [] z.2.2) K) x2 z.1 z.2.1 z.2.2 hR (fun _ _ _ q => q) T) (x3, x4, h) T
noncomputable def f11_drawOnTrial (x1 : Int32) (x2 : Int32) (h : Hp) : Option (Int32 × Hp) :=
  f11_drawOnTrial_5 x2 x1 0 h
set_option maxRecDepth 100000 in
set_option maxHeartbeats 4000000 in
theorem k_f11_drawOnTrial {x : Mx} {l : Launch} {post0 : Option Value → Hp → Prop} (C : Cx ΛC x l RX11 cX11_drawOnTrial rm_f11_drawOnTrial (some .int) 5 post0) {K : Int32 × Hp → Prop} (x1 : Int32) (x2 : Int32) (h : Hp) (hR : ∀ (v : Int32) (h : Hp), K (v, h) → post0 (some (.int v)) h) (T : Tt (f11_drawOnTrial x1 x2 h) K) : G ΛC x 0 [(0, .ref 0), (1, .int x1), (2, .int x2)] [] h := by
  refine g_iload_n (q := 1) C dX11_drawOnTrial_0 rfl rfl ?_
  refine g_istore_n (L' := [(3, .int x1), (0, .ref 0), (1, .int x1), (2, .int x2)]) C dX11_drawOnTrial_1 rfl (by decide) rfl ?_
  refine g_iconst (v := 0) C dX11_drawOnTrial_2 (by decide) ?_
  refine g_istore (L' := [(4, .int 0), (3, .int x1), (0, .ref 0), (1, .int x1), (2, .int x2)]) C dX11_drawOnTrial_3 (by decide) rfl ?_
  refine g_sub [2, 4, 1, 0] rfl ?_
  exact k_f11_drawOnTrial_5 C x2 x1 0 h hR T

theorem ok_f11_drawOnTrial {l : Launch} {K : Int32 × Hp → Prop} (x1 : Int32) (x2 : Int32) (h : Hp) (T : Tt (f11_drawOnTrial x1 x2 h) K) : Ok ΛC l yX11_drawOnTrial cX11_drawOnTrial 5 (some .int) rm_f11_drawOnTrial [.ref 0, .int x1, .int x2] h (PIw K) :=
  Ok.of RX11 rfl (by decide) ⟨rfl, rfl⟩ (Nat.le_of_ble_eq_true rfl) (fun x C => k_f11_drawOnTrial C x1 x2 h (fun v _ q => ⟨v, rfl, q⟩) T)

abbrev rm_f11_chance : Room := { frames := 6, cells := 0, slots := 0, locals := 148 }
noncomputable def f11_chance_91 (x2 : Int32) (x3 : Int32) (x4 : Int32) (x5 : Int32) (x6 : Int32) (x7 : Int32) (h : Hp) : Option ((Int32 × Int32 × Int32 × Hp) ⊕ (Int32 × Hp)) :=
  some (.inl (x5, x6, x7 + 1, h))
set_option maxRecDepth 100000 in
set_option maxHeartbeats 4000000 in
theorem k_f11_chance_91 {x : Mx} {l : Launch} {post0 : Option Value → Hp → Prop} (C : Cx ΛC x l RX11 cX11_chance rm_f11_chance (some .int) 8 post0) {K : (Int32 × Int32 × Int32 × Hp) ⊕ (Int32 × Hp) → Prop} (x2 : Int32) (x3 : Int32) (x4 : Int32) (x5 : Int32) (x6 : Int32) (x7 : Int32) (h : Hp) (hR : ∀ (v : Int32) (h : Hp), K (.inr (v, h)) → post0 (some (.int v)) h) (hL44 : ∀ (x5 : Int32) (x6 : Int32) (x7 : Int32) (h : Hp), K (.inl (x5, x6, x7, h)) → G ΛC x 44 [(0, .ref 0), (2, .int x2), (3, .int x3), (4, .int x4), (5, .int x5), (6, .int x6), (7, .int x7)] [] h) (T : Tt (f11_chance_91 x2 x3 x4 x5 x6 x7 h) K) : G ΛC x 91 [(0, .ref 0), (2, .int x2), (3, .int x3), (4, .int x4), (5, .int x5), (6, .int x6), (7, .int x7)] [] h := by
  refine g_iinc (v := x7 + 1) (q := 6) (L' := [(7, .int (x7 + 1)), (0, .ref 0), (2, .int x2), (3, .int x3), (4, .int x4), (5, .int x5), (6, .int x6)]) C dX11_chance_91 rfl (by first | rfl | exact congrArg _ (by decide)) (by decide) rfl ?_
  refine g_goto (tgt := 44) C dX11_chance_94 (by decide) ?_
  refine g_sub [1, 2, 3, 4, 5, 6, 0] rfl ?_
  exact hL44 _ _ _ _ (tt_some T)

noncomputable def f11_chance_44_s (x2 : Int32) (x3 : Int32) (x4 : Int32) (x5 : Int32) (x6 : Int32) (x7 : Int32) (h : Hp) : Option ((Int32 × Int32 × Int32 × Hp) ⊕ (Int32 × Hp)) :=
  if 10 ≤ x7 then (some (.inr (x6, h))) else (gd (inb x3 6) <| (f0_copyOf 51 (8 + 2 * ix x3) h).bind fun h10 => (f11_drawOnTrial x5 x2 h10).bind fun (r11, h12) => if h12.1 51 6 < x4 then (f11_chance_91 x2 x3 x4 r11 x6 x7 h12) else (f11_chance_91 x2 x3 x4 r11 (x6 + 1) x7 h12))
set_option maxRecDepth 100000 in
set_option maxHeartbeats 4000000 in
theorem k_f11_chance_44_s {x : Mx} {l : Launch} {post0 : Option Value → Hp → Prop} (C : Cx ΛC x l RX11 cX11_chance rm_f11_chance (some .int) 8 post0) {K : (Int32 × Int32 × Int32 × Hp) ⊕ (Int32 × Hp) → Prop} (x2 : Int32) (x3 : Int32) (x4 : Int32) (x5 : Int32) (x6 : Int32) (x7 : Int32) (h : Hp) (hR : ∀ (v : Int32) (h : Hp), K (.inr (v, h)) → post0 (some (.int v)) h) (hL44 : ∀ (x5 : Int32) (x6 : Int32) (x7 : Int32) (h : Hp), K (.inl (x5, x6, x7, h)) → G ΛC x 44 [(0, .ref 0), (2, .int x2), (3, .int x3), (4, .int x4), (5, .int x5), (6, .int x6), (7, .int x7)] [] h) (T : Tt (f11_chance_44_s x2 x3 x4 x5 x6 x7 h) K) : G ΛC x 44 [(0, .ref 0), (2, .int x2), (3, .int x3), (4, .int x4), (5, .int x5), (6, .int x6), (7, .int x7)] [] h := by
  refine g_iload (q := 6) C dX11_chance_44 rfl ?_
  refine g_bipush (v := 10) C dX11_chance_46 (by decide) ?_
  refine g_icmp_ge (tgt := 97) C dX11_chance_48 (by decide) (fun c8 => ?_) (fun c8 => ?_)
  · have T := tt_t T c8
    refine g_iload (q := 5) C dX11_chance_97 rfl ?_
    exact g_iret C dX11_chance_99 (hR _ _ (tt_some T))
  · have T := tt_f T c8
    refine g_aload_n (q := 0) C dX11_chance_51 rfl rfl ?_
    refine g_getF (k := 8) (q := 51) C dX11_chance_52 (hpC rfl rfl) rfl fl_X11_68 rfl rfl ?_
    refine g_aload_n (q := 0) C dX11_chance_55 rfl rfl ?_
    refine g_getF (k := 2) (q := 6) C dX11_chance_56 (hpC rfl rfl) rfl fl_X11_30 rfl rfl ?_
    refine g_getF (k := 0) (q := 7) C dX11_chance_59 (hpC rfl rfl) rfl fl_X11_140 rfl rfl ?_
    refine g_iload_n (q := 2) C dX11_chance_62 rfl rfl ?_
    obtain ⟨g9, T⟩ := tt_gd T
    refine g_aald (q := 8 + 2 * ix x3) C dX11_chance_63 (hpC rfl rfl) rfl (inb_of rfl g9) rfl ?_
    refine g_callV (p := 51) (As := [.ref (8 + 2 * ix x3)]) C dX11_chance_64 ml_X11_223 yv_f0_copyOf ⟨rfl, rfl⟩ ⟨Nat.le_of_ble_eq_true rfl, Nat.le_of_ble_eq_true rfl⟩ (hpC rfl rfl) rfl rfl rfl (Nat.le_of_ble_eq_true rfl) (ok_f0_copyOf 51 (8 + 2 * ix x3) rfl (kboxC (a := 7) rfl g9) h (tt_bind T)) ?_
    rintro _ h10 ⟨rfl, T⟩
    show G ΛC x 67 [(0, .ref 0), (2, .int x2), (3, .int x3), (4, .int x4), (5, .int x5), (6, .int x6), (7, .int x7)] [] h10
    refine g_aload_n (q := 0) C dX11_chance_67 rfl rfl ?_
    refine g_iload (q := 4) C dX11_chance_68 rfl ?_
    refine g_iload_n (q := 1) C dX11_chance_70 rfl rfl ?_
    refine g_callV (p := 0) (As := [.int x5, .int x2]) C dX11_chance_71 ml_X11_332 yv_f11_drawOnTrial ⟨rfl, rfl⟩ ⟨Nat.le_of_ble_eq_true rfl, Nat.le_of_ble_eq_true rfl⟩ (hpC rfl rfl) rfl rfl rfl (Nat.le_of_ble_eq_true rfl) (ok_f11_drawOnTrial x5 x2 h10 (tt_bind T)) ?_
    rintro _ h12 ⟨r11, rfl, T⟩
    show G ΛC x 74 [(0, .ref 0), (2, .int x2), (3, .int x3), (4, .int x4), (5, .int x5), (6, .int x6), (7, .int x7)] [.int r11] h12
    refine g_istore (L' := [(5, .int r11), (0, .ref 0), (2, .int x2), (3, .int x3), (4, .int x4), (6, .int x6), (7, .int x7)]) C dX11_chance_74 (by decide) rfl ?_
    refine g_aload_n (q := 1) C dX11_chance_76 rfl rfl ?_
    refine g_getF (k := 8) (q := 51) C dX11_chance_77 (hpC rfl rfl) rfl fl_X11_68 rfl rfl ?_
    refine g_getI (k := 6) C dX11_chance_80 (hpC rfl rfl) rfl fl_X11_150 rfl ?_
    refine g_iload (q := 4) C dX11_chance_83 rfl ?_
    refine g_icmp_lt (tgt := 91) C dX11_chance_85 (by decide) (fun c13 => ?_) (fun c13 => ?_)
    · have T := tt_t T c13
      refine g_sub [1, 2, 3, 4, 0, 5, 6] rfl ?_
      exact k_f11_chance_91 C x2 x3 x4 r11 x6 x7 h12 hR hL44 T
    · have T := tt_f T c13
      refine g_iinc (v := x6 + 1) (q := 5) (L' := [(6, .int (x6 + 1)), (5, .int r11), (0, .ref 0), (2, .int x2), (3, .int x3), (4, .int x4), (7, .int x7)]) C dX11_chance_88 rfl (by first | rfl | exact congrArg _ (by decide)) (by decide) rfl ?_
      refine g_sub [2, 3, 4, 5, 1, 0, 6] rfl ?_
      exact k_f11_chance_91 C x2 x3 x4 r11 (x6 + 1) x7 h12 hR hL44 T

noncomputable def f11_chance_44 (x2 : Int32) (x3 : Int32) (x4 : Int32) (x5 : Int32) (x6 : Int32) (x7 : Int32) (h : Hp) : Option (Int32 × Hp) := lp (fun z : Int32 × Int32 × Int32 × Hp => f11_chance_44_s x2 x3 x4 z.1 z.2.1 z.2.2.1 z.2.2.2) (x5, x6, x7, h)
theorem k_f11_chance_44 {x : Mx} {l : Launch} {post0 : Option Value → Hp → Prop} (C : Cx ΛC x l RX11 cX11_chance rm_f11_chance (some .int) 8 post0) {K : Int32 × Hp → Prop} (x2 : Int32) (x3 : Int32) (x4 : Int32) (x5 : Int32) (x6 : Int32) (x7 : Int32) (h : Hp) (hR : ∀ (v : Int32) (h : Hp), K (v, h) → post0 (some (.int v)) h) (T : Tt (f11_chance_44 x2 x3 x4 x5 x6 x7 h) K) : G ΛC x 44 [(0, .ref 0), (2, .int x2), (3, .int x3), (4, .int x4), (5, .int x5), (6, .int x6), (7, .int x7)] [] h :=
  lp_ind (f := fun z : Int32 × Int32 × Int32 × Hp => f11_chance_44_s x2 x3 x4 z.1 z.2.1 z.2.2.1 z.2.2.2) (P := fun z : Int32 × Int32 × Int32 × Hp => G ΛC x 44 [(0, .ref 0), (2, .int x2), (3, .int x3), (4, .int x4), (5, .int z.1), (6, .int z.2.1), (7, .int z.2.2.1)] [] z.2.2.2) (K := K) (fun z T => k_f11_chance_44_s C (K := KS (fun z : Int32 × Int32 × Int32 × Hp => G ΛC x 44 [(0, .ref 0), (2, .int x2), (3, .int x3), (4, .int x4), (5, .int z.1), (6, .int z.2.1), (7, .int z.2.2.1)] [] z.2.2.2) K) x2 x3 x4 z.1 z.2.1 z.2.2.1 z.2.2.2 hR (fun _ _ _ _ q => q) T) (x5, x6, x7, h) T
noncomputable def f11_chance (x1 : Int32) (x2 : Int32) (x3 : Int32) (x4 : Int32) (h : Hp) : Option (Int32 × Hp) :=
  (f11_isBox x3 h).bind fun r1 => if r1 = 0 then (some ((-1), h)) else (if x1 < 0 then (some ((-1), h)) else ((f11_isWithin x2 1 99).bind fun r4 => if r4 = 0 then (some ((-1), h)) else ((f11_isWithin x4 0 99).bind fun r6 => if r6 = 0 then (some ((-1), h)) else (f11_chance_44 x2 x3 x4 x1 0 0 h))))
set_option maxRecDepth 100000 in
set_option maxHeartbeats 4000000 in
theorem k_f11_chance {x : Mx} {l : Launch} {post0 : Option Value → Hp → Prop} (C : Cx ΛC x l RX11 cX11_chance rm_f11_chance (some .int) 8 post0) {K : Int32 × Hp → Prop} (x1 : Int32) (x2 : Int32) (x3 : Int32) (x4 : Int32) (h : Hp) (hR : ∀ (v : Int32) (h : Hp), K (v, h) → post0 (some (.int v)) h) (T : Tt (f11_chance x1 x2 x3 x4 h) K) : G ΛC x 0 [(0, .ref 0), (1, .int x1), (2, .int x2), (3, .int x3), (4, .int x4)] [] h := by
  refine g_aload_n (q := 0) C dX11_chance_0 rfl rfl ?_
  refine g_iload_n (q := 3) C dX11_chance_1 rfl rfl ?_
  refine g_callV (p := 0) (As := [.int x3]) C dX11_chance_2 ml_X11_129 yv_f11_isBox ⟨rfl, rfl⟩ ⟨Nat.le_of_ble_eq_true rfl, Nat.le_of_ble_eq_true rfl⟩ (hpC rfl rfl) rfl rfl rfl (Nat.le_of_ble_eq_true rfl) (ok_f11_isBox x3 h (tt_bind T)) ?_
  rintro _ _ ⟨r1, rfl, rfl, T⟩
  show G ΛC x 5 [(0, .ref 0), (1, .int x1), (2, .int x2), (3, .int x3), (4, .int x4)] [.int r1] h
  refine g_if_eq (tgt := 33) C dX11_chance_5 (by decide) (fun c2 => ?_) (fun c2 => ?_)
  · have T := tt_t T c2
    refine g_iconst (v := (-1)) C dX11_chance_33 (by decide) ?_
    exact g_iret C dX11_chance_34 (hR _ _ (tt_some T))
  · have T := tt_f T c2
    refine g_iload_n (q := 1) C dX11_chance_8 rfl rfl ?_
    refine g_if_lt (tgt := 33) C dX11_chance_9 (by decide) (fun c3 => ?_) (fun c3 => ?_)
    · have T := tt_t T c3
      refine g_iconst (v := (-1)) C dX11_chance_33 (by decide) ?_
      exact g_iret C dX11_chance_34 (hR _ _ (tt_some T))
    · have T := tt_f T c3
      refine g_iload_n (q := 2) C dX11_chance_12 rfl rfl ?_
      refine g_iconst (v := 1) C dX11_chance_13 (by decide) ?_
      refine g_bipush (v := 99) C dX11_chance_14 (by decide) ?_
      refine g_callS (As := [.int x2, .int 1, .int 99]) C dX11_chance_16 ml_X11_170 ys_f11_isWithin ⟨rfl, rfl⟩ ⟨Nat.le_of_ble_eq_true rfl, Nat.le_of_ble_eq_true rfl⟩ rfl rfl (Nat.le_of_ble_eq_true rfl) (ok_f11_isWithin x2 1 99 h (tt_bind T)) ?_
      rintro _ _ ⟨r4, rfl, rfl, T⟩
      show G ΛC x 19 [(0, .ref 0), (1, .int x1), (2, .int x2), (3, .int x3), (4, .int x4)] [.int r4] h
      refine g_if_eq (tgt := 33) C dX11_chance_19 (by decide) (fun c5 => ?_) (fun c5 => ?_)
      · have T := tt_t T c5
        refine g_iconst (v := (-1)) C dX11_chance_33 (by decide) ?_
        exact g_iret C dX11_chance_34 (hR _ _ (tt_some T))
      · have T := tt_f T c5
        refine g_iload (q := 4) C dX11_chance_22 rfl ?_
        refine g_iconst (v := 0) C dX11_chance_24 (by decide) ?_
        refine g_bipush (v := 99) C dX11_chance_25 (by decide) ?_
        refine g_callS (As := [.int x4, .int 0, .int 99]) C dX11_chance_27 ml_X11_170 ys_f11_isWithin ⟨rfl, rfl⟩ ⟨Nat.le_of_ble_eq_true rfl, Nat.le_of_ble_eq_true rfl⟩ rfl rfl (Nat.le_of_ble_eq_true rfl) (ok_f11_isWithin x4 0 99 h (tt_bind T)) ?_
        rintro _ _ ⟨r6, rfl, rfl, T⟩
        show G ΛC x 30 [(0, .ref 0), (1, .int x1), (2, .int x2), (3, .int x3), (4, .int x4)] [.int r6] h
        refine g_if_ne (tgt := 35) C dX11_chance_30 (by decide) (fun c7 => ?_) (fun c7 => ?_)
        · have T := tt_f T c7
          refine g_iload_n (q := 1) C dX11_chance_35 rfl rfl ?_
          refine g_istore (L' := [(5, .int x1), (0, .ref 0), (1, .int x1), (2, .int x2), (3, .int x3), (4, .int x4)]) C dX11_chance_36 (by decide) rfl ?_
          refine g_iconst (v := 0) C dX11_chance_38 (by decide) ?_
          refine g_istore (L' := [(6, .int 0), (5, .int x1), (0, .ref 0), (1, .int x1), (2, .int x2), (3, .int x3), (4, .int x4)]) C dX11_chance_39 (by decide) rfl ?_
          refine g_iconst (v := 0) C dX11_chance_41 (by decide) ?_
          refine g_istore (L' := [(7, .int 0), (6, .int 0), (5, .int x1), (0, .ref 0), (1, .int x1), (2, .int x2), (3, .int x3), (4, .int x4)]) C dX11_chance_42 (by decide) rfl ?_
          refine g_sub [3, 5, 6, 7, 2, 1, 0] rfl ?_
          exact k_f11_chance_44 C x2 x3 x4 x1 0 0 h hR T
        · have T := tt_t T c7
          refine g_iconst (v := (-1)) C dX11_chance_33 (by decide) ?_
          exact g_iret C dX11_chance_34 (hR _ _ (tt_some T))

theorem ok_f11_chance {l : Launch} {K : Int32 × Hp → Prop} (x1 : Int32) (x2 : Int32) (x3 : Int32) (x4 : Int32) (h : Hp) (T : Tt (f11_chance x1 x2 x3 x4 h) K) : Ok ΛC l yX11_chance cX11_chance 8 (some .int) rm_f11_chance [.ref 0, .int x1, .int x2, .int x3, .int x4] h (PIw K) :=
  Ok.of RX11 rfl (by decide) ⟨rfl, rfl⟩ (Nat.le_of_ble_eq_true rfl) (fun x C => k_f11_chance C x1 x2 x3 x4 h (fun v _ q => ⟨v, rfl, q⟩) T)

abbrev rm_f11_changeTrial : Room := { frames := 0, cells := 0, slots := 0, locals := 0 }
noncomputable def f11_changeTrial (x1 : Int32) (h : Hp) : Option (Hp) :=
  if x1 = 1 then (lt (wI h 51 10 0) fun h6 => some (h6)) else (if x1 = 3 then (lt (wI h 51 9 0) fun h5 => some (h5)) else (if x1 = 4 then (lt (wI h 51 5 99) fun h4 => some (h4)) else (some (h))))
set_option maxRecDepth 100000 in
set_option maxHeartbeats 4000000 in
theorem k_f11_changeTrial {x : Mx} {l : Launch} {post0 : Option Value → Hp → Prop} (C : Cx ΛC x l RX11 cX11_changeTrial rm_f11_changeTrial none 2 post0) {K : Hp → Prop} (x1 : Int32) (h : Hp) (hR : ∀ h : Hp, K h → post0 none h) (T : Tt (f11_changeTrial x1 h) K) : G ΛC x 0 [(0, .ref 0), (1, .int x1)] [] h := by
  refine g_iload_n (q := 1) C dX11_changeTrial_0 rfl rfl ?_
  refine g_iconst (v := 1) C dX11_changeTrial_1 (by decide) ?_
  refine g_icmp_ne (tgt := 16) C dX11_changeTrial_2 (by decide) (fun c1 => ?_) (fun c1 => ?_)
  · have T := tt_f T c1
    refine g_iload_n (q := 1) C dX11_changeTrial_16 rfl rfl ?_
    refine g_iconst (v := 3) C dX11_changeTrial_17 (by decide) ?_
    refine g_icmp_ne (tgt := 32) C dX11_changeTrial_18 (by decide) (fun c2 => ?_) (fun c2 => ?_)
    · have T := tt_f T c2
      refine g_iload_n (q := 1) C dX11_changeTrial_32 rfl rfl ?_
      refine g_iconst (v := 4) C dX11_changeTrial_33 (by decide) ?_
      refine g_icmp_ne (tgt := 46) C dX11_changeTrial_34 (by decide) (fun c3 => ?_) (fun c3 => ?_)
      · have T := tt_f T c3
        exact g_vret C dX11_changeTrial_46 (hR _ (tt_some T))
      · have T := tt_t T c3
        refine g_aload_n (q := 0) C dX11_changeTrial_37 rfl rfl ?_
        refine g_getF (k := 8) (q := 51) C dX11_changeTrial_38 (hpC rfl rfl) rfl fl_X11_68 rfl rfl ?_
        refine g_bipush (v := 99) C dX11_changeTrial_41 (by decide) ?_
        obtain ⟨h4, eh4, T⟩ := tt_lt T
        refine g_putI (k := 5) C dX11_changeTrial_43 (hpC rfl rfl) rfl fp_X11_144 rfl eh4 ?_
        exact g_vret C dX11_changeTrial_46 (hR _ (tt_some T))
    · have T := tt_t T c2
      refine g_aload_n (q := 0) C dX11_changeTrial_21 rfl rfl ?_
      refine g_getF (k := 8) (q := 51) C dX11_changeTrial_22 (hpC rfl rfl) rfl fl_X11_68 rfl rfl ?_
      refine g_iconst (v := 0) C dX11_changeTrial_25 (by decide) ?_
      obtain ⟨h5, eh5, T⟩ := tt_lt T
      refine g_putI (k := 9) C dX11_changeTrial_26 (hpC rfl rfl) rfl fp_X11_162 rfl eh5 ?_
      refine g_goto (tgt := 46) C dX11_changeTrial_29 (by decide) ?_
      exact g_vret C dX11_changeTrial_46 (hR _ (tt_some T))
  · have T := tt_t T c1
    refine g_aload_n (q := 0) C dX11_changeTrial_5 rfl rfl ?_
    refine g_getF (k := 8) (q := 51) C dX11_changeTrial_6 (hpC rfl rfl) rfl fl_X11_68 rfl rfl ?_
    refine g_iconst (v := 0) C dX11_changeTrial_9 (by decide) ?_
    obtain ⟨h6, eh6, T⟩ := tt_lt T
    refine g_putZ (k := 10) C dX11_changeTrial_10 (hpC rfl rfl) rfl fp_X11_159 rfl (Or.inl rfl) eh6 ?_
    refine g_goto (tgt := 46) C dX11_changeTrial_13 (by decide) ?_
    exact g_vret C dX11_changeTrial_46 (hR _ (tt_some T))

theorem ok_f11_changeTrial {l : Launch} {K : Hp → Prop} (x1 : Int32) (h : Hp) (T : Tt (f11_changeTrial x1 h) K) : Ok ΛC l yX11_changeTrial cX11_changeTrial 2 none rm_f11_changeTrial [.ref 0, .int x1] h (PVw K) :=
  Ok.of RX11 rfl (by decide) ⟨rfl, rfl⟩ (Nat.le_of_ble_eq_true rfl) (fun x C => k_f11_changeTrial C x1 h (fun _ q => ⟨rfl, q⟩) T)

abbrev rm_f11_tried : Room := { frames := 6, cells := 0, slots := 0, locals := 148 }
noncomputable def f11_tried_120 (x1 : Int32) (x2 : Int32) (x3 : Int32) (x4 : Int32) (x5 : Int32) (h : Hp) : Option ((Int32 × Int32 × Hp) ⊕ (Int32 × Hp)) :=
  some (.inl (x4, x5 + 1, h))
set_option maxRecDepth 100000 in
set_option maxHeartbeats 4000000 in
theorem k_f11_tried_120 {x : Mx} {l : Launch} {post0 : Option Value → Hp → Prop} (C : Cx ΛC x l RX11 cX11_tried rm_f11_tried (some .int) 6 post0) {K : (Int32 × Int32 × Hp) ⊕ (Int32 × Hp) → Prop} (x1 : Int32) (x2 : Int32) (x3 : Int32) (x4 : Int32) (x5 : Int32) (h : Hp) (hR : ∀ (v : Int32) (h : Hp), K (.inr (v, h)) → post0 (some (.int v)) h) (hL49 : ∀ (x4 : Int32) (x5 : Int32) (h : Hp), K (.inl (x4, x5, h)) → G ΛC x 49 [(0, .ref 0), (1, .int x1), (2, .int x2), (3, .int x3), (4, .int x4), (5, .int x5)] [] h) (T : Tt (f11_tried_120 x1 x2 x3 x4 x5 h) K) : G ΛC x 120 [(0, .ref 0), (1, .int x1), (2, .int x2), (3, .int x3), (4, .int x4), (5, .int x5)] [] h := by
  refine g_iinc (v := x5 + 1) (q := 5) (L' := [(5, .int (x5 + 1)), (0, .ref 0), (1, .int x1), (2, .int x2), (3, .int x3), (4, .int x4)]) C dX11_tried_120 rfl (by first | rfl | exact congrArg _ (by decide)) (by decide) rfl ?_
  refine g_goto (tgt := 49) C dX11_tried_123 (by decide) ?_
  refine g_sub [1, 2, 3, 4, 5, 0] rfl ?_
  exact hL49 _ _ _ (tt_some T)

noncomputable def f11_tried_114 (x1 : Int32) (x2 : Int32) (x3 : Int32) (x5 : Int32) (s0 : Int32) (s1 : Int32) (s3 : Int32) (h : Hp) : Option ((Int32 × Int32 × Hp) ⊕ (Int32 × Hp)) :=
  (f11_laughterOnTrial s1 s0 h).bind fun (r13, h14) => lt (s3 + r13) fun v15 => f11_tried_120 x1 x2 x3 v15 x5 h14
set_option maxRecDepth 100000 in
set_option maxHeartbeats 4000000 in
theorem k_f11_tried_114 {x : Mx} {l : Launch} {post0 : Option Value → Hp → Prop} (C : Cx ΛC x l RX11 cX11_tried rm_f11_tried (some .int) 6 post0) {K : (Int32 × Int32 × Hp) ⊕ (Int32 × Hp) → Prop} (x1 : Int32) (x2 : Int32) (x3 : Int32) (x5 : Int32) (s0 : Int32) (s1 : Int32) (s3 : Int32) (h : Hp) (hR : ∀ (v : Int32) (h : Hp), K (.inr (v, h)) → post0 (some (.int v)) h) (hL49 : ∀ (x4 : Int32) (x5 : Int32) (h : Hp), K (.inl (x4, x5, h)) → G ΛC x 49 [(0, .ref 0), (1, .int x1), (2, .int x2), (3, .int x3), (4, .int x4), (5, .int x5)] [] h) (T : Tt (f11_tried_114 x1 x2 x3 x5 s0 s1 s3 h) K) : G ΛC x 114 [(0, .ref 0), (1, .int x1), (2, .int x2), (3, .int x3), (5, .int x5)] [.int s0, .int s1, .ref 0, .int s3] h := by
  refine g_callV (p := 0) (As := [.int s1, .int s0]) C dX11_tried_114 ml_X11_292 yv_f11_laughterOnTrial ⟨rfl, rfl⟩ ⟨Nat.le_of_ble_eq_true rfl, Nat.le_of_ble_eq_true rfl⟩ (hpC rfl rfl) rfl rfl rfl (Nat.le_of_ble_eq_true rfl) (ok_f11_laughterOnTrial s1 s0 h (tt_bind T)) ?_
  rintro _ h14 ⟨r13, rfl, T⟩
  show G ΛC x 117 [(0, .ref 0), (1, .int x1), (2, .int x2), (3, .int x3), (5, .int x5)] [.int r13, .int s3] h14
  refine g_iadd C dX11_tried_117 ?_
  obtain ⟨v15, ev15, T⟩ := tt_lt T
  refine g_nameI ev15 ?_
  refine g_istore (L' := [(4, .int v15), (0, .ref 0), (1, .int x1), (2, .int x2), (3, .int x3), (5, .int x5)]) C dX11_tried_118 (by decide) rfl ?_
  refine g_sub [1, 2, 3, 4, 0, 5] rfl ?_
  exact k_f11_tried_120 C x1 x2 x3 v15 x5 h14 hR hL49 T

noncomputable def f11_tried_113 (x1 : Int32) (x2 : Int32) (x3 : Int32) (x5 : Int32) (s0 : Int32) (s2 : Int32) (h : Hp) : Option ((Int32 × Int32 × Hp) ⊕ (Int32 × Hp)) :=
  f11_tried_114 x1 x2 x3 x5 0 s0 s2 h
set_option maxRecDepth 100000 in
set_option maxHeartbeats 4000000 in
theorem k_f11_tried_113 {x : Mx} {l : Launch} {post0 : Option Value → Hp → Prop} (C : Cx ΛC x l RX11 cX11_tried rm_f11_tried (some .int) 6 post0) {K : (Int32 × Int32 × Hp) ⊕ (Int32 × Hp) → Prop} (x1 : Int32) (x2 : Int32) (x3 : Int32) (x5 : Int32) (s0 : Int32) (s2 : Int32) (h : Hp) (hR : ∀ (v : Int32) (h : Hp), K (.inr (v, h)) → post0 (some (.int v)) h) (hL49 : ∀ (x4 : Int32) (x5 : Int32) (h : Hp), K (.inl (x4, x5, h)) → G ΛC x 49 [(0, .ref 0), (1, .int x1), (2, .int x2), (3, .int x3), (4, .int x4), (5, .int x5)] [] h) (T : Tt (f11_tried_113 x1 x2 x3 x5 s0 s2 h) K) : G ΛC x 113 [(0, .ref 0), (1, .int x1), (2, .int x2), (3, .int x3), (5, .int x5)] [.int s0, .ref 0, .int s2] h := by
  refine g_iconst (v := 0) C dX11_tried_113 (by decide) ?_
  exact k_f11_tried_114 C x1 x2 x3 x5 0 s0 s2 h hR hL49 T

noncomputable def f11_tried_72 (x1 : Int32) (x2 : Int32) (x3 : Int32) (x4 : Int32) (x5 : Int32) (h : Hp) : Option ((Int32 × Int32 × Hp) ⊕ (Int32 × Hp)) :=
  gd (inb x5 6) <| (f0_copyOf 51 (8 + 2 * ix x5) h).bind fun h10 => (f11_changeTrial x1 h10).bind fun h11 => if x1 = 0 then (f11_tried_113 x1 x2 x3 x5 x3 x4 h11) else ((f11_isDampAsItGoes h11).bind fun r16 => if r16 = 0 then (f11_tried_113 x1 x2 x3 x5 x3 x4 h11) else (f11_tried_114 x1 x2 x3 x5 1 x3 x4 h11))
set_option maxRecDepth 100000 in
set_option maxHeartbeats 4000000 in
theorem k_f11_tried_72 {x : Mx} {l : Launch} {post0 : Option Value → Hp → Prop} (C : Cx ΛC x l RX11 cX11_tried rm_f11_tried (some .int) 6 post0) {K : (Int32 × Int32 × Hp) ⊕ (Int32 × Hp) → Prop} (x1 : Int32) (x2 : Int32) (x3 : Int32) (x4 : Int32) (x5 : Int32) (h : Hp) (hR : ∀ (v : Int32) (h : Hp), K (.inr (v, h)) → post0 (some (.int v)) h) (hL49 : ∀ (x4 : Int32) (x5 : Int32) (h : Hp), K (.inl (x4, x5, h)) → G ΛC x 49 [(0, .ref 0), (1, .int x1), (2, .int x2), (3, .int x3), (4, .int x4), (5, .int x5)] [] h) (T : Tt (f11_tried_72 x1 x2 x3 x4 x5 h) K) : G ΛC x 72 [(0, .ref 0), (1, .int x1), (2, .int x2), (3, .int x3), (4, .int x4), (5, .int x5)] [] h := by
  refine g_aload_n (q := 0) C dX11_tried_72 rfl rfl ?_
  refine g_getF (k := 8) (q := 51) C dX11_tried_73 (hpC rfl rfl) rfl fl_X11_68 rfl rfl ?_
  refine g_aload_n (q := 0) C dX11_tried_76 rfl rfl ?_
  refine g_getF (k := 2) (q := 6) C dX11_tried_77 (hpC rfl rfl) rfl fl_X11_30 rfl rfl ?_
  refine g_getF (k := 0) (q := 7) C dX11_tried_80 (hpC rfl rfl) rfl fl_X11_140 rfl rfl ?_
  refine g_iload (q := 5) C dX11_tried_83 rfl ?_
  obtain ⟨g9, T⟩ := tt_gd T
  refine g_aald (q := 8 + 2 * ix x5) C dX11_tried_85 (hpC rfl rfl) rfl (inb_of rfl g9) rfl ?_
  refine g_callV (p := 51) (As := [.ref (8 + 2 * ix x5)]) C dX11_tried_86 ml_X11_223 yv_f0_copyOf ⟨rfl, rfl⟩ ⟨Nat.le_of_ble_eq_true rfl, Nat.le_of_ble_eq_true rfl⟩ (hpC rfl rfl) rfl rfl rfl (Nat.le_of_ble_eq_true rfl) (ok_f0_copyOf 51 (8 + 2 * ix x5) rfl (kboxC (a := 7) rfl g9) h (tt_bind T)) ?_
  rintro _ h10 ⟨rfl, T⟩
  show G ΛC x 89 [(0, .ref 0), (1, .int x1), (2, .int x2), (3, .int x3), (4, .int x4), (5, .int x5)] [] h10
  refine g_aload_n (q := 0) C dX11_tried_89 rfl rfl ?_
  refine g_iload_n (q := 1) C dX11_tried_90 rfl rfl ?_
  refine g_callV (p := 0) (As := [.int x1]) C dX11_tried_91 ml_X11_335 yv_f11_changeTrial ⟨rfl, rfl⟩ ⟨Nat.le_of_ble_eq_true rfl, Nat.le_of_ble_eq_true rfl⟩ (hpC rfl rfl) rfl rfl rfl (Nat.le_of_ble_eq_true rfl) (ok_f11_changeTrial x1 h10 (tt_bind T)) ?_
  rintro _ h11 ⟨rfl, T⟩
  show G ΛC x 94 [(0, .ref 0), (1, .int x1), (2, .int x2), (3, .int x3), (4, .int x4), (5, .int x5)] [] h11
  refine g_iload (q := 4) C dX11_tried_94 rfl ?_
  refine g_aload_n (q := 0) C dX11_tried_96 rfl rfl ?_
  refine g_iload_n (q := 3) C dX11_tried_97 rfl rfl ?_
  refine g_iload_n (q := 1) C dX11_tried_98 rfl rfl ?_
  refine g_if_eq (tgt := 113) C dX11_tried_99 (by decide) (fun c12 => ?_) (fun c12 => ?_)
  · have T := tt_t T c12
    refine g_sub [0, 1, 2, 3, 5] rfl ?_
    exact k_f11_tried_113 C x1 x2 x3 x5 x3 x4 h11 hR hL49 T
  · have T := tt_f T c12
    refine g_aload_n (q := 0) C dX11_tried_102 rfl rfl ?_
    refine g_callV (p := 0) (As := []) C dX11_tried_103 ml_X11_279 yv_f11_isDampAsItGoes ⟨rfl, rfl⟩ ⟨Nat.le_of_ble_eq_true rfl, Nat.le_of_ble_eq_true rfl⟩ (hpC rfl rfl) rfl rfl rfl (Nat.le_of_ble_eq_true rfl) (ok_f11_isDampAsItGoes h11 (tt_bind T)) ?_
    rintro _ _ ⟨r16, rfl, rfl, T⟩
    show G ΛC x 106 [(0, .ref 0), (1, .int x1), (2, .int x2), (3, .int x3), (4, .int x4), (5, .int x5)] [.int r16, .int x3, .ref 0, .int x4] h11
    refine g_if_eq (tgt := 113) C dX11_tried_106 (by decide) (fun c17 => ?_) (fun c17 => ?_)
    · have T := tt_t T c17
      refine g_sub [0, 1, 2, 3, 5] rfl ?_
      exact k_f11_tried_113 C x1 x2 x3 x5 x3 x4 h11 hR hL49 T
    · have T := tt_f T c17
      refine g_iconst (v := 1) C dX11_tried_109 (by decide) ?_
      refine g_goto (tgt := 114) C dX11_tried_110 (by decide) ?_
      refine g_sub [0, 1, 2, 3, 5] rfl ?_
      exact k_f11_tried_114 C x1 x2 x3 x5 1 x3 x4 h11 hR hL49 T

noncomputable def f11_tried_49_s (x1 : Int32) (x2 : Int32) (x3 : Int32) (x4 : Int32) (x5 : Int32) (h : Hp) : Option ((Int32 × Int32 × Hp) ⊕ (Int32 × Hp)) :=
  if h.1 6 1 ≤ x5 then (some (.inr (x4, h))) else (if x1 = 2 then (if x5 = x2 then (f11_tried_120 x1 x2 x3 x4 x5 h) else (f11_tried_72 x1 x2 x3 x4 x5 h)) else (f11_tried_72 x1 x2 x3 x4 x5 h))
set_option maxRecDepth 100000 in
set_option maxHeartbeats 4000000 in
theorem k_f11_tried_49_s {x : Mx} {l : Launch} {post0 : Option Value → Hp → Prop} (C : Cx ΛC x l RX11 cX11_tried rm_f11_tried (some .int) 6 post0) {K : (Int32 × Int32 × Hp) ⊕ (Int32 × Hp) → Prop} (x1 : Int32) (x2 : Int32) (x3 : Int32) (x4 : Int32) (x5 : Int32) (h : Hp) (hR : ∀ (v : Int32) (h : Hp), K (.inr (v, h)) → post0 (some (.int v)) h) (hL49 : ∀ (x4 : Int32) (x5 : Int32) (h : Hp), K (.inl (x4, x5, h)) → G ΛC x 49 [(0, .ref 0), (1, .int x1), (2, .int x2), (3, .int x3), (4, .int x4), (5, .int x5)] [] h) (T : Tt (f11_tried_49_s x1 x2 x3 x4 x5 h) K) : G ΛC x 49 [(0, .ref 0), (1, .int x1), (2, .int x2), (3, .int x3), (4, .int x4), (5, .int x5)] [] h := by
  refine g_iload (q := 5) C dX11_tried_49 rfl ?_
  refine g_aload_n (q := 0) C dX11_tried_51 rfl rfl ?_
  refine g_getF (k := 2) (q := 6) C dX11_tried_52 (hpC rfl rfl) rfl fl_X11_30 rfl rfl ?_
  refine g_getI (k := 1) C dX11_tried_55 (hpC rfl rfl) rfl fl_X11_263 rfl ?_
  refine g_icmp_ge (tgt := 126) C dX11_tried_58 (by decide) (fun c7 => ?_) (fun c7 => ?_)
  · have T := tt_t T c7
    refine g_iload (q := 4) C dX11_tried_126 rfl ?_
    exact g_iret C dX11_tried_128 (hR _ _ (tt_some T))
  · have T := tt_f T c7
    refine g_iload_n (q := 1) C dX11_tried_61 rfl rfl ?_
    refine g_iconst (v := 2) C dX11_tried_62 (by decide) ?_
    refine g_icmp_ne (tgt := 72) C dX11_tried_63 (by decide) (fun c8 => ?_) (fun c8 => ?_)
    · have T := tt_f T c8
      exact k_f11_tried_72 C x1 x2 x3 x4 x5 h hR hL49 T
    · have T := tt_t T c8
      refine g_iload (q := 5) C dX11_tried_66 rfl ?_
      refine g_iload_n (q := 2) C dX11_tried_68 rfl rfl ?_
      refine g_icmp_eq (tgt := 120) C dX11_tried_69 (by decide) (fun c18 => ?_) (fun c18 => ?_)
      · have T := tt_t T c18
        exact k_f11_tried_120 C x1 x2 x3 x4 x5 h hR hL49 T
      · have T := tt_f T c18
        exact k_f11_tried_72 C x1 x2 x3 x4 x5 h hR hL49 T

noncomputable def f11_tried_49 (x1 : Int32) (x2 : Int32) (x3 : Int32) (x4 : Int32) (x5 : Int32) (h : Hp) : Option (Int32 × Hp) := lp (fun z : Int32 × Int32 × Hp => f11_tried_49_s x1 x2 x3 z.1 z.2.1 z.2.2) (x4, x5, h)
theorem k_f11_tried_49 {x : Mx} {l : Launch} {post0 : Option Value → Hp → Prop} (C : Cx ΛC x l RX11 cX11_tried rm_f11_tried (some .int) 6 post0) {K : Int32 × Hp → Prop} (x1 : Int32) (x2 : Int32) (x3 : Int32) (x4 : Int32) (x5 : Int32) (h : Hp) (hR : ∀ (v : Int32) (h : Hp), K (v, h) → post0 (some (.int v)) h) (T : Tt (f11_tried_49 x1 x2 x3 x4 x5 h) K) : G ΛC x 49 [(0, .ref 0), (1, .int x1), (2, .int x2), (3, .int x3), (4, .int x4), (5, .int x5)] [] h :=
  lp_ind (f := fun z : Int32 × Int32 × Hp => f11_tried_49_s x1 x2 x3 z.1 z.2.1 z.2.2) (P := fun z : Int32 × Int32 × Hp => G ΛC x 49 [(0, .ref 0), (1, .int x1), (2, .int x2), (3, .int x3), (4, .int z.1), (5, .int z.2.1)] [] z.2.2) (K := K) (fun z T => k_f11_tried_49_s C (K := KS (fun z : Int32 × Int32 × Hp => G ΛC x 49 [(0, .ref 0), (1, .int x1), (2, .int x2), (3, .int x3), (4, .int z.1), (5, .int z.2.1)] [] z.2.2) K) x1 x2 x3 z.1 z.2.1 z.2.2 hR (fun _ _ _ q => q) T) (x4, x5, h) T
noncomputable def f11_tried_43 (x1 : Int32) (x2 : Int32) (x3 : Int32) (h : Hp) : Option (Int32 × Hp) :=
  f11_tried_49 x1 x2 x3 0 0 h
set_option maxRecDepth 100000 in
set_option maxHeartbeats 4000000 in
theorem k_f11_tried_43 {x : Mx} {l : Launch} {post0 : Option Value → Hp → Prop} (C : Cx ΛC x l RX11 cX11_tried rm_f11_tried (some .int) 6 post0) {K : Int32 × Hp → Prop} (x1 : Int32) (x2 : Int32) (x3 : Int32) (h : Hp) (hR : ∀ (v : Int32) (h : Hp), K (v, h) → post0 (some (.int v)) h) (T : Tt (f11_tried_43 x1 x2 x3 h) K) : G ΛC x 43 [(0, .ref 0), (1, .int x1), (2, .int x2), (3, .int x3)] [] h := by
  refine g_iconst (v := 0) C dX11_tried_43 (by decide) ?_
  refine g_istore (L' := [(4, .int 0), (0, .ref 0), (1, .int x1), (2, .int x2), (3, .int x3)]) C dX11_tried_44 (by decide) rfl ?_
  refine g_iconst (v := 0) C dX11_tried_46 (by decide) ?_
  refine g_istore (L' := [(5, .int 0), (4, .int 0), (0, .ref 0), (1, .int x1), (2, .int x2), (3, .int x3)]) C dX11_tried_47 (by decide) rfl ?_
  refine g_sub [2, 3, 4, 5, 1, 0] rfl ?_
  exact k_f11_tried_49 C x1 x2 x3 0 0 h hR T

noncomputable def f11_tried (x1 : Int32) (x2 : Int32) (x3 : Int32) (h : Hp) : Option (Int32 × Hp) :=
  (f11_isWithin x1 0 4).bind fun r1 => if r1 = 0 then (some ((-1), h)) else ((f11_isWithin x3 0 99).bind fun r3 => if r3 = 0 then (some ((-1), h)) else (if x1 = 2 then ((f11_isBox x2 h).bind fun r19 => if r19 = 0 then (some ((-1), h)) else (f11_tried_43 x1 x2 x3 h)) else (if x2 = 0 then (f11_tried_43 x1 x2 x3 h) else (some ((-1), h)))))
set_option maxRecDepth 100000 in
set_option maxHeartbeats 4000000 in
theorem k_f11_tried {x : Mx} {l : Launch} {post0 : Option Value → Hp → Prop} (C : Cx ΛC x l RX11 cX11_tried rm_f11_tried (some .int) 6 post0) {K : Int32 × Hp → Prop} (x1 : Int32) (x2 : Int32) (x3 : Int32) (h : Hp) (hR : ∀ (v : Int32) (h : Hp), K (v, h) → post0 (some (.int v)) h) (T : Tt (f11_tried x1 x2 x3 h) K) : G ΛC x 0 [(0, .ref 0), (1, .int x1), (2, .int x2), (3, .int x3)] [] h := by
  refine g_iload_n (q := 1) C dX11_tried_0 rfl rfl ?_
  refine g_iconst (v := 0) C dX11_tried_1 (by decide) ?_
  refine g_iconst (v := 4) C dX11_tried_2 (by decide) ?_
  refine g_callS (As := [.int x1, .int 0, .int 4]) C dX11_tried_3 ml_X11_170 ys_f11_isWithin ⟨rfl, rfl⟩ ⟨Nat.le_of_ble_eq_true rfl, Nat.le_of_ble_eq_true rfl⟩ rfl rfl (Nat.le_of_ble_eq_true rfl) (ok_f11_isWithin x1 0 4 h (tt_bind T)) ?_
  rintro _ _ ⟨r1, rfl, rfl, T⟩
  show G ΛC x 6 [(0, .ref 0), (1, .int x1), (2, .int x2), (3, .int x3)] [.int r1] h
  refine g_if_eq (tgt := 19) C dX11_tried_6 (by decide) (fun c2 => ?_) (fun c2 => ?_)
  · have T := tt_t T c2
    refine g_iconst (v := (-1)) C dX11_tried_19 (by decide) ?_
    exact g_iret C dX11_tried_20 (hR _ _ (tt_some T))
  · have T := tt_f T c2
    refine g_iload_n (q := 3) C dX11_tried_9 rfl rfl ?_
    refine g_iconst (v := 0) C dX11_tried_10 (by decide) ?_
    refine g_bipush (v := 99) C dX11_tried_11 (by decide) ?_
    refine g_callS (As := [.int x3, .int 0, .int 99]) C dX11_tried_13 ml_X11_170 ys_f11_isWithin ⟨rfl, rfl⟩ ⟨Nat.le_of_ble_eq_true rfl, Nat.le_of_ble_eq_true rfl⟩ rfl rfl (Nat.le_of_ble_eq_true rfl) (ok_f11_isWithin x3 0 99 h (tt_bind T)) ?_
    rintro _ _ ⟨r3, rfl, rfl, T⟩
    show G ΛC x 16 [(0, .ref 0), (1, .int x1), (2, .int x2), (3, .int x3)] [.int r3] h
    refine g_if_ne (tgt := 21) C dX11_tried_16 (by decide) (fun c4 => ?_) (fun c4 => ?_)
    · have T := tt_f T c4
      refine g_iload_n (q := 1) C dX11_tried_21 rfl rfl ?_
      refine g_iconst (v := 2) C dX11_tried_22 (by decide) ?_
      refine g_icmp_ne (tgt := 37) C dX11_tried_23 (by decide) (fun c5 => ?_) (fun c5 => ?_)
      · have T := tt_f T c5
        refine g_iload_n (q := 2) C dX11_tried_37 rfl rfl ?_
        refine g_if_eq (tgt := 43) C dX11_tried_38 (by decide) (fun c6 => ?_) (fun c6 => ?_)
        · have T := tt_t T c6
          exact k_f11_tried_43 C x1 x2 x3 h hR T
        · have T := tt_f T c6
          refine g_iconst (v := (-1)) C dX11_tried_41 (by decide) ?_
          exact g_iret C dX11_tried_42 (hR _ _ (tt_some T))
      · have T := tt_t T c5
        refine g_aload_n (q := 0) C dX11_tried_26 rfl rfl ?_
        refine g_iload_n (q := 2) C dX11_tried_27 rfl rfl ?_
        refine g_callV (p := 0) (As := [.int x2]) C dX11_tried_28 ml_X11_129 yv_f11_isBox ⟨rfl, rfl⟩ ⟨Nat.le_of_ble_eq_true rfl, Nat.le_of_ble_eq_true rfl⟩ (hpC rfl rfl) rfl rfl rfl (Nat.le_of_ble_eq_true rfl) (ok_f11_isBox x2 h (tt_bind T)) ?_
        rintro _ _ ⟨r19, rfl, rfl, T⟩
        show G ΛC x 31 [(0, .ref 0), (1, .int x1), (2, .int x2), (3, .int x3)] [.int r19] h
        refine g_if_ne (tgt := 43) C dX11_tried_31 (by decide) (fun c20 => ?_) (fun c20 => ?_)
        · have T := tt_f T c20
          exact k_f11_tried_43 C x1 x2 x3 h hR T
        · have T := tt_t T c20
          refine g_goto (tgt := 41) C dX11_tried_34 (by decide) ?_
          refine g_iconst (v := (-1)) C dX11_tried_41 (by decide) ?_
          exact g_iret C dX11_tried_42 (hR _ _ (tt_some T))
    · have T := tt_t T c4
      refine g_iconst (v := (-1)) C dX11_tried_19 (by decide) ?_
      exact g_iret C dX11_tried_20 (hR _ _ (tt_some T))

theorem ok_f11_tried {l : Launch} {K : Int32 × Hp → Prop} (x1 : Int32) (x2 : Int32) (x3 : Int32) (h : Hp) (T : Tt (f11_tried x1 x2 x3 h) K) : Ok ΛC l yX11_tried cX11_tried 6 (some .int) rm_f11_tried [.ref 0, .int x1, .int x2, .int x3] h (PIw K) :=
  Ok.of RX11 rfl (by decide) ⟨rfl, rfl⟩ (Nat.le_of_ble_eq_true rfl) (fun x C => k_f11_tried C x1 x2 x3 h (fun v _ q => ⟨v, rfl, q⟩) T)

abbrev rm_f11_undo : Room := { frames := 1, cells := 0, slots := 0, locals := 22 }
noncomputable def f11_undo (h : Hp) : Option (Int32 × Hp) :=
  if h.1 34 4 = 0 then (some ((-1), h)) else ((f1_takeLatest 6 h).bind fun h2 => some (h2.1 34 4, h2))
set_option maxRecDepth 100000 in
set_option maxHeartbeats 4000000 in
theorem k_f11_undo {x : Mx} {l : Launch} {post0 : Option Value → Hp → Prop} (C : Cx ΛC x l RX11 cX11_undo rm_f11_undo (some .int) 1 post0) {K : Int32 × Hp → Prop} (h : Hp) (hR : ∀ (v : Int32) (h : Hp), K (v, h) → post0 (some (.int v)) h) (T : Tt (f11_undo h) K) : G ΛC x 0 [(0, .ref 0)] [] h := by
  refine g_aload_n (q := 0) C dX11_undo_0 rfl rfl ?_
  refine g_getF (k := 4) (q := 34) C dX11_undo_1 (hpC rfl rfl) rfl fl_X11_40 rfl rfl ?_
  refine g_getI (k := 4) C dX11_undo_4 (hpC rfl rfl) rfl fl_X11_338 rfl ?_
  refine g_if_ne (tgt := 12) C dX11_undo_7 (by decide) (fun c1 => ?_) (fun c1 => ?_)
  · have T := tt_f T c1
    refine g_aload_n (q := 0) C dX11_undo_12 rfl rfl ?_
    refine g_getF (k := 4) (q := 34) C dX11_undo_13 (hpC rfl rfl) rfl fl_X11_40 rfl rfl ?_
    refine g_aload_n (q := 0) C dX11_undo_16 rfl rfl ?_
    refine g_getF (k := 2) (q := 6) C dX11_undo_17 (hpC rfl rfl) rfl fl_X11_30 rfl rfl ?_
    refine g_callV (p := 34) (As := [.ref 6]) C dX11_undo_20 ml_X11_339 yv_f1_takeLatest ⟨rfl, rfl⟩ ⟨Nat.le_of_ble_eq_true rfl, Nat.le_of_ble_eq_true rfl⟩ (hpC rfl rfl) rfl rfl rfl (Nat.le_of_ble_eq_true rfl) (ok_f1_takeLatest 6 rfl h (tt_bind T)) ?_
    rintro _ h2 ⟨rfl, T⟩
    show G ΛC x 23 [(0, .ref 0)] [] h2
    refine g_aload_n (q := 0) C dX11_undo_23 rfl rfl ?_
    refine g_getF (k := 4) (q := 34) C dX11_undo_24 (hpC rfl rfl) rfl fl_X11_40 rfl rfl ?_
    refine g_getI (k := 4) C dX11_undo_27 (hpC rfl rfl) rfl fl_X11_338 rfl ?_
    exact g_iret C dX11_undo_30 (hR _ _ (tt_some T))
  · have T := tt_t T c1
    refine g_iconst (v := (-1)) C dX11_undo_10 (by decide) ?_
    exact g_iret C dX11_undo_11 (hR _ _ (tt_some T))

theorem ok_f11_undo {l : Launch} {K : Int32 × Hp → Prop} (h : Hp) (T : Tt (f11_undo h) K) : Ok ΛC l yX11_undo cX11_undo 1 (some .int) rm_f11_undo [.ref 0] h (PIw K) :=
  Ok.of RX11 rfl (by decide) ⟨rfl, rfl⟩ (Nat.le_of_ble_eq_true rfl) (fun x C => k_f11_undo C h (fun v _ q => ⟨v, rfl, q⟩) T)

abbrev rm_f11_keep : Room := { frames := 3, cells := 0, slots := 0, locals := 61 }
noncomputable def f11_keep (h : Hp) : Option (Int32 × Hp) :=
  (f9_copyOf 20 6 h).bind fun h1 => lt (wI h1 0 13 1) fun h2 => some (h2.1 6 2, h2)
set_option maxRecDepth 100000 in
set_option maxHeartbeats 4000000 in
theorem k_f11_keep {x : Mx} {l : Launch} {post0 : Option Value → Hp → Prop} (C : Cx ΛC x l RX11 cX11_keep rm_f11_keep (some .int) 1 post0) {K : Int32 × Hp → Prop} (h : Hp) (hR : ∀ (v : Int32) (h : Hp), K (v, h) → post0 (some (.int v)) h) (T : Tt (f11_keep h) K) : G ΛC x 0 [(0, .ref 0)] [] h := by
  refine g_aload_n (q := 0) C dX11_keep_0 rfl rfl ?_
  refine g_getF (k := 3) (q := 20) C dX11_keep_1 (hpC rfl rfl) rfl fl_X11_34 rfl rfl ?_
  refine g_aload_n (q := 0) C dX11_keep_4 rfl rfl ?_
  refine g_getF (k := 2) (q := 6) C dX11_keep_5 (hpC rfl rfl) rfl fl_X11_30 rfl rfl ?_
  refine g_callV (p := 20) (As := [.ref 6]) C dX11_keep_8 ml_X11_342 yv_f9_copyOf ⟨rfl, rfl⟩ ⟨Nat.le_of_ble_eq_true rfl, Nat.le_of_ble_eq_true rfl⟩ (hpC rfl rfl) rfl rfl rfl (Nat.le_of_ble_eq_true rfl) (ok_f9_copyOf 20 6 rfl rfl h (tt_bind T)) ?_
  rintro _ h1 ⟨rfl, T⟩
  show G ΛC x 11 [(0, .ref 0)] [] h1
  refine g_aload_n (q := 0) C dX11_keep_11 rfl rfl ?_
  refine g_iconst (v := 1) C dX11_keep_12 (by decide) ?_
  obtain ⟨h2, eh2, T⟩ := tt_lt T
  refine g_putZ (k := 13) C dX11_keep_13 (hpC rfl rfl) rfl fp_X11_89 rfl (Or.inr rfl) eh2 ?_
  refine g_aload_n (q := 0) C dX11_keep_16 rfl rfl ?_
  refine g_getF (k := 2) (q := 6) C dX11_keep_17 (hpC rfl rfl) rfl fl_X11_30 rfl rfl ?_
  refine g_getI (k := 2) C dX11_keep_20 (hpC rfl rfl) rfl fl_X11_198 rfl ?_
  exact g_iret C dX11_keep_23 (hR _ _ (tt_some T))

theorem ok_f11_keep {l : Launch} {K : Int32 × Hp → Prop} (h : Hp) (T : Tt (f11_keep h) K) : Ok ΛC l yX11_keep cX11_keep 1 (some .int) rm_f11_keep [.ref 0] h (PIw K) :=
  Ok.of RX11 rfl (by decide) ⟨rfl, rfl⟩ (Nat.le_of_ble_eq_true rfl) (fun x C => k_f11_keep C h (fun v _ q => ⟨v, rfl, q⟩) T)

abbrev rm_f11_back : Room := { frames := 3, cells := 0, slots := 0, locals := 61 }
noncomputable def f11_back (h : Hp) : Option (Int32 × Hp) :=
  if h.1 0 13 = 0 then (some ((-1), h)) else ((f9_copyOf 6 20 h).bind fun h2 => (f1_clear h2).bind fun h3 => some (h3.1 6 2, h3))
set_option maxRecDepth 100000 in
set_option maxHeartbeats 4000000 in
theorem k_f11_back {x : Mx} {l : Launch} {post0 : Option Value → Hp → Prop} (C : Cx ΛC x l RX11 cX11_back rm_f11_back (some .int) 1 post0) {K : Int32 × Hp → Prop} (h : Hp) (hR : ∀ (v : Int32) (h : Hp), K (v, h) → post0 (some (.int v)) h) (T : Tt (f11_back h) K) : G ΛC x 0 [(0, .ref 0)] [] h := by
  refine g_aload_n (q := 0) C dX11_back_0 rfl rfl ?_
  refine g_getI (k := 13) C dX11_back_1 (hpC rfl rfl) rfl fl_X11_89 rfl ?_
  refine g_if_ne (tgt := 9) C dX11_back_4 (by decide) (fun c1 => ?_) (fun c1 => ?_)
  · have T := tt_f T c1
    refine g_aload_n (q := 0) C dX11_back_9 rfl rfl ?_
    refine g_getF (k := 2) (q := 6) C dX11_back_10 (hpC rfl rfl) rfl fl_X11_30 rfl rfl ?_
    refine g_aload_n (q := 0) C dX11_back_13 rfl rfl ?_
    refine g_getF (k := 3) (q := 20) C dX11_back_14 (hpC rfl rfl) rfl fl_X11_34 rfl rfl ?_
    refine g_callV (p := 6) (As := [.ref 20]) C dX11_back_17 ml_X11_342 yv_f9_copyOf ⟨rfl, rfl⟩ ⟨Nat.le_of_ble_eq_true rfl, Nat.le_of_ble_eq_true rfl⟩ (hpC rfl rfl) rfl rfl rfl (Nat.le_of_ble_eq_true rfl) (ok_f9_copyOf 6 20 rfl rfl h (tt_bind T)) ?_
    rintro _ h2 ⟨rfl, T⟩
    show G ΛC x 20 [(0, .ref 0)] [] h2
    refine g_aload_n (q := 0) C dX11_back_20 rfl rfl ?_
    refine g_getF (k := 4) (q := 34) C dX11_back_21 (hpC rfl rfl) rfl fl_X11_40 rfl rfl ?_
    refine g_callV (p := 34) (As := []) C dX11_back_24 ml_X11_115 yv_f1_clear ⟨rfl, rfl⟩ ⟨Nat.le_of_ble_eq_true rfl, Nat.le_of_ble_eq_true rfl⟩ (hpC rfl rfl) rfl rfl rfl (Nat.le_of_ble_eq_true rfl) (ok_f1_clear h2 (tt_bind T)) ?_
    rintro _ h3 ⟨rfl, T⟩
    show G ΛC x 27 [(0, .ref 0)] [] h3
    refine g_aload_n (q := 0) C dX11_back_27 rfl rfl ?_
    refine g_getF (k := 2) (q := 6) C dX11_back_28 (hpC rfl rfl) rfl fl_X11_30 rfl rfl ?_
    refine g_getI (k := 2) C dX11_back_31 (hpC rfl rfl) rfl fl_X11_198 rfl ?_
    exact g_iret C dX11_back_34 (hR _ _ (tt_some T))
  · have T := tt_t T c1
    refine g_iconst (v := (-1)) C dX11_back_7 (by decide) ?_
    exact g_iret C dX11_back_8 (hR _ _ (tt_some T))

theorem ok_f11_back {l : Launch} {K : Int32 × Hp → Prop} (h : Hp) (T : Tt (f11_back h) K) : Ok ΛC l yX11_back cX11_back 1 (some .int) rm_f11_back [.ref 0] h (PIw K) :=
  Ok.of RX11 rfl (by decide) ⟨rfl, rfl⟩ (Nat.le_of_ble_eq_true rfl) (fun x C => k_f11_back C h (fun v _ q => ⟨v, rfl, q⟩) T)

abbrev rm_f11_sumOfBoxes : Room := { frames := 1, cells := 0, slots := 0, locals := 20 }
noncomputable def f11_sumOfBoxes_95 (x1 : Int32) (x2 : Int32) (x3 : Int32) (h : Hp) : Option ((Int32 × Int32) ⊕ (Int32)) :=
  some (.inl (x2, x3 + 1))
set_option maxRecDepth 100000 in
set_option maxHeartbeats 4000000 in
theorem k_f11_sumOfBoxes_95 {x : Mx} {l : Launch} {post0 : Option Value → Hp → Prop} (C : Cx ΛC x l RX11 cX11_sumOfBoxes rm_f11_sumOfBoxes (some .int) 5 post0) {K : (Int32 × Int32) ⊕ (Int32) → Prop} (x1 : Int32) (x2 : Int32) (x3 : Int32) (h : Hp) (hR : ∀ v : Int32, K (.inr v) → post0 (some (.int v)) h) (hL4 : ∀ (x2 : Int32) (x3 : Int32), K (.inl (x2, x3)) → G ΛC x 4 [(0, .ref 0), (1, .int x1), (2, .int x2), (3, .int x3)] [] h) (T : Tt (f11_sumOfBoxes_95 x1 x2 x3 h) K) : G ΛC x 95 [(0, .ref 0), (1, .int x1), (2, .int x2), (3, .int x3)] [] h := by
  refine g_iinc (v := x3 + 1) (q := 3) (L' := [(3, .int (x3 + 1)), (0, .ref 0), (1, .int x1), (2, .int x2)]) C dX11_sumOfBoxes_95 rfl (by first | rfl | exact congrArg _ (by decide)) (by decide) rfl ?_
  refine g_goto (tgt := 4) C dX11_sumOfBoxes_98 (by decide) ?_
  refine g_sub [1, 2, 3, 0] rfl ?_
  exact hL4 _ _ (tt_some T)

noncomputable def f11_sumOfBoxes_79 (x1 : Int32) (x3 : Int32) (s0 : Int32) (s1 : Int32) (h : Hp) : Option ((Int32 × Int32) ⊕ (Int32)) :=
  lt (s1 + s0) fun v10 => f11_sumOfBoxes_95 x1 v10 x3 h
set_option maxRecDepth 100000 in
set_option maxHeartbeats 4000000 in
theorem k_f11_sumOfBoxes_79 {x : Mx} {l : Launch} {post0 : Option Value → Hp → Prop} (C : Cx ΛC x l RX11 cX11_sumOfBoxes rm_f11_sumOfBoxes (some .int) 5 post0) {K : (Int32 × Int32) ⊕ (Int32) → Prop} (x1 : Int32) (x3 : Int32) (s0 : Int32) (s1 : Int32) (h : Hp) (hR : ∀ v : Int32, K (.inr v) → post0 (some (.int v)) h) (hL4 : ∀ (x2 : Int32) (x3 : Int32), K (.inl (x2, x3)) → G ΛC x 4 [(0, .ref 0), (1, .int x1), (2, .int x2), (3, .int x3)] [] h) (T : Tt (f11_sumOfBoxes_79 x1 x3 s0 s1 h) K) : G ΛC x 79 [(0, .ref 0), (1, .int x1), (3, .int x3)] [.int s0, .int s1] h := by
  refine g_iadd C dX11_sumOfBoxes_79 ?_
  obtain ⟨v10, ev10, T⟩ := tt_lt T
  refine g_nameI ev10 ?_
  refine g_istore_n (L' := [(2, .int v10), (0, .ref 0), (1, .int x1), (3, .int x3)]) C dX11_sumOfBoxes_80 rfl (by decide) rfl ?_
  refine g_goto (tgt := 95) C dX11_sumOfBoxes_81 (by decide) ?_
  refine g_sub [1, 2, 0, 3] rfl ?_
  exact k_f11_sumOfBoxes_95 C x1 v10 x3 h hR hL4 T

noncomputable def f11_sumOfBoxes_4_s (x1 : Int32) (x2 : Int32) (x3 : Int32) (h : Hp) : Option ((Int32 × Int32) ⊕ (Int32)) :=
  if h.1 6 1 ≤ x3 then (some (.inr x2)) else (gd (inb x3 6) <| lt (8 + 2 * ix x3) fun p3 => if x1 = 5 then (lt (x2 + (h.1 p3 7)) fun v12 => f11_sumOfBoxes_95 x1 v12 x3 h) else (if x1 = 6 then (lt (x2 + (h.1 p3 8)) fun v11 => f11_sumOfBoxes_95 x1 v11 x3 h) else (if x1 = 7 then (if h.1 p3 10 = 0 then (f11_sumOfBoxes_79 x1 x3 0 x2 h) else (f11_sumOfBoxes_79 x1 x3 1 x2 h)) else ((fJ_bitCount_0f7a4 (h.1 p3 9)).bind fun r7 => lt (x2 + r7) fun v8 => f11_sumOfBoxes_95 x1 v8 x3 h))))
set_option maxRecDepth 100000 in
set_option maxHeartbeats 4000000 in
theorem k_f11_sumOfBoxes_4_s {x : Mx} {l : Launch} {post0 : Option Value → Hp → Prop} (C : Cx ΛC x l RX11 cX11_sumOfBoxes rm_f11_sumOfBoxes (some .int) 5 post0) {K : (Int32 × Int32) ⊕ (Int32) → Prop} (x1 : Int32) (x2 : Int32) (x3 : Int32) (h : Hp) (hR : ∀ v : Int32, K (.inr v) → post0 (some (.int v)) h) (hL4 : ∀ (x2 : Int32) (x3 : Int32), K (.inl (x2, x3)) → G ΛC x 4 [(0, .ref 0), (1, .int x1), (2, .int x2), (3, .int x3)] [] h) (T : Tt (f11_sumOfBoxes_4_s x1 x2 x3 h) K) : G ΛC x 4 [(0, .ref 0), (1, .int x1), (2, .int x2), (3, .int x3)] [] h := by
  refine g_iload_n (q := 3) C dX11_sumOfBoxes_4 rfl rfl ?_
  refine g_aload_n (q := 0) C dX11_sumOfBoxes_5 rfl rfl ?_
  refine g_getF (k := 2) (q := 6) C dX11_sumOfBoxes_6 (hpC rfl rfl) rfl fl_X11_30 rfl rfl ?_
  refine g_getI (k := 1) C dX11_sumOfBoxes_9 (hpC rfl rfl) rfl fl_X11_263 rfl ?_
  refine g_icmp_ge (tgt := 101) C dX11_sumOfBoxes_12 (by decide) (fun c1 => ?_) (fun c1 => ?_)
  · have T := tt_t T c1
    refine g_iload_n (q := 2) C dX11_sumOfBoxes_101 rfl rfl ?_
    exact g_iret C dX11_sumOfBoxes_102 (hR _ (tt_some T))
  · have T := tt_f T c1
    refine g_aload_n (q := 0) C dX11_sumOfBoxes_15 rfl rfl ?_
    refine g_getF (k := 2) (q := 6) C dX11_sumOfBoxes_16 (hpC rfl rfl) rfl fl_X11_30 rfl rfl ?_
    refine g_getF (k := 0) (q := 7) C dX11_sumOfBoxes_19 (hpC rfl rfl) rfl fl_X11_140 rfl rfl ?_
    refine g_iload_n (q := 3) C dX11_sumOfBoxes_22 rfl rfl ?_
    obtain ⟨g2, T⟩ := tt_gd T
    refine g_aald (q := 8 + 2 * ix x3) C dX11_sumOfBoxes_23 (hpC rfl rfl) rfl (inb_of rfl g2) rfl ?_
    obtain ⟨p3, ep3, T⟩ := tt_lt T
    have kp3 : kdC p3 = 0 := by rw [ep3]; exact kboxC (a := 7) rfl g2
    refine g_nameR ep3 ?_
    refine g_astore (L' := [(4, .ref p3), (0, .ref 0), (1, .int x1), (2, .int x2), (3, .int x3)]) C dX11_sumOfBoxes_24 (by decide) rfl ?_
    refine g_iload_n (q := 2) C dX11_sumOfBoxes_26 rfl rfl ?_
    refine g_iconst (v := 5) C dX11_sumOfBoxes_27 (by decide) ?_
    refine g_icmp_ne (tgt := 42) C dX11_sumOfBoxes_28 (by decide) (fun c4 => ?_) (fun c4 => ?_)
    · have T := tt_f T c4
      refine g_iload_n (q := 2) C dX11_sumOfBoxes_42 rfl rfl ?_
      refine g_bipush (v := 6) C dX11_sumOfBoxes_43 (by decide) ?_
      refine g_icmp_ne (tgt := 59) C dX11_sumOfBoxes_45 (by decide) (fun c5 => ?_) (fun c5 => ?_)
      · have T := tt_f T c5
        refine g_iload_n (q := 2) C dX11_sumOfBoxes_59 rfl rfl ?_
        refine g_bipush (v := 7) C dX11_sumOfBoxes_60 (by decide) ?_
        refine g_icmp_ne (tgt := 84) C dX11_sumOfBoxes_62 (by decide) (fun c6 => ?_) (fun c6 => ?_)
        · have T := tt_f T c6
          refine g_iload_n (q := 3) C dX11_sumOfBoxes_84 rfl rfl ?_
          refine g_aload (q := 0) C dX11_sumOfBoxes_85 rfl ?_
          refine g_getI (k := 9) C dX11_sumOfBoxes_87 (hpC kp3 rfl) kp3 fl_X11_162 rfl ?_
          refine g_callS (As := [.int (h.1 p3 9)]) C dX11_sumOfBoxes_90 ml_X11_359 ys_fJ_bitCount_0f7a4 ⟨rfl, rfl⟩ ⟨Nat.le_of_ble_eq_true rfl, Nat.le_of_ble_eq_true rfl⟩ rfl rfl (Nat.le_of_ble_eq_true rfl) (ok_fJ_bitCount_0f7a4 (h.1 p3 9) h (tt_bind T)) ?_
          rintro _ _ ⟨r7, rfl, rfl, T⟩
          show G ΛC x 93 [(4, .ref p3), (0, .ref 0), (1, .int x1), (2, .int x2), (3, .int x3)] [.int r7, .int x2] h
          refine g_iadd C dX11_sumOfBoxes_93 ?_
          obtain ⟨v8, ev8, T⟩ := tt_lt T
          refine g_nameI ev8 ?_
          refine g_istore_n (L' := [(2, .int v8), (4, .ref p3), (0, .ref 0), (1, .int x1), (3, .int x3)]) C dX11_sumOfBoxes_94 rfl (by decide) rfl ?_
          refine g_sub [2, 3, 0, 4] rfl ?_
          exact k_f11_sumOfBoxes_95 C x1 v8 x3 h hR hL4 T
        · have T := tt_t T c6
          refine g_iload_n (q := 3) C dX11_sumOfBoxes_65 rfl rfl ?_
          refine g_aload (q := 0) C dX11_sumOfBoxes_66 rfl ?_
          refine g_getI (k := 10) C dX11_sumOfBoxes_68 (hpC kp3 rfl) kp3 fl_X11_159 rfl ?_
          refine g_if_eq (tgt := 78) C dX11_sumOfBoxes_71 (by decide) (fun c9 => ?_) (fun c9 => ?_)
          · have T := tt_t T c9
            refine g_iconst (v := 0) C dX11_sumOfBoxes_78 (by decide) ?_
            refine g_sub [1, 2, 4] rfl ?_
            exact k_f11_sumOfBoxes_79 C x1 x3 0 x2 h hR hL4 T
          · have T := tt_f T c9
            refine g_iconst (v := 1) C dX11_sumOfBoxes_74 (by decide) ?_
            refine g_goto (tgt := 79) C dX11_sumOfBoxes_75 (by decide) ?_
            refine g_sub [1, 2, 4] rfl ?_
            exact k_f11_sumOfBoxes_79 C x1 x3 1 x2 h hR hL4 T
      · have T := tt_t T c5
        refine g_iload_n (q := 3) C dX11_sumOfBoxes_48 rfl rfl ?_
        refine g_aload (q := 0) C dX11_sumOfBoxes_49 rfl ?_
        refine g_getI (k := 8) C dX11_sumOfBoxes_51 (hpC kp3 rfl) kp3 fl_X11_156 rfl ?_
        refine g_iadd C dX11_sumOfBoxes_54 ?_
        obtain ⟨v11, ev11, T⟩ := tt_lt T
        refine g_nameI ev11 ?_
        refine g_istore_n (L' := [(2, .int v11), (4, .ref p3), (0, .ref 0), (1, .int x1), (3, .int x3)]) C dX11_sumOfBoxes_55 rfl (by decide) rfl ?_
        refine g_goto (tgt := 95) C dX11_sumOfBoxes_56 (by decide) ?_
        refine g_sub [2, 3, 0, 4] rfl ?_
        exact k_f11_sumOfBoxes_95 C x1 v11 x3 h hR hL4 T
    · have T := tt_t T c4
      refine g_iload_n (q := 3) C dX11_sumOfBoxes_31 rfl rfl ?_
      refine g_aload (q := 0) C dX11_sumOfBoxes_32 rfl ?_
      refine g_getI (k := 7) C dX11_sumOfBoxes_34 (hpC kp3 rfl) kp3 fl_X11_153 rfl ?_
      refine g_iadd C dX11_sumOfBoxes_37 ?_
      obtain ⟨v12, ev12, T⟩ := tt_lt T
      refine g_nameI ev12 ?_
      refine g_istore_n (L' := [(2, .int v12), (4, .ref p3), (0, .ref 0), (1, .int x1), (3, .int x3)]) C dX11_sumOfBoxes_38 rfl (by decide) rfl ?_
      refine g_goto (tgt := 95) C dX11_sumOfBoxes_39 (by decide) ?_
      refine g_sub [2, 3, 0, 4] rfl ?_
      exact k_f11_sumOfBoxes_95 C x1 v12 x3 h hR hL4 T

noncomputable def f11_sumOfBoxes_4 (x1 : Int32) (x2 : Int32) (x3 : Int32) (h : Hp) : Option (Int32) := lp (fun z : Int32 × Int32 => f11_sumOfBoxes_4_s x1 z.1 z.2 h) (x2, x3)
theorem k_f11_sumOfBoxes_4 {x : Mx} {l : Launch} {post0 : Option Value → Hp → Prop} (C : Cx ΛC x l RX11 cX11_sumOfBoxes rm_f11_sumOfBoxes (some .int) 5 post0) {K : Int32 → Prop} (x1 : Int32) (x2 : Int32) (x3 : Int32) (h : Hp) (hR : ∀ v : Int32, K v → post0 (some (.int v)) h) (T : Tt (f11_sumOfBoxes_4 x1 x2 x3 h) K) : G ΛC x 4 [(0, .ref 0), (1, .int x1), (2, .int x2), (3, .int x3)] [] h :=
  lp_ind (f := fun z : Int32 × Int32 => f11_sumOfBoxes_4_s x1 z.1 z.2 h) (P := fun z : Int32 × Int32 => G ΛC x 4 [(0, .ref 0), (1, .int x1), (2, .int z.1), (3, .int z.2)] [] h) (K := K) (fun z T => k_f11_sumOfBoxes_4_s C (K := KS (fun z : Int32 × Int32 => G ΛC x 4 [(0, .ref 0), (1, .int x1), (2, .int z.1), (3, .int z.2)] [] h) K) x1 z.1 z.2 h hR (fun _ _ q => q) T) (x2, x3) T
noncomputable def f11_sumOfBoxes (x1 : Int32) (h : Hp) : Option (Int32) :=
  f11_sumOfBoxes_4 x1 0 0 h
set_option maxRecDepth 100000 in
set_option maxHeartbeats 4000000 in
theorem k_f11_sumOfBoxes {x : Mx} {l : Launch} {post0 : Option Value → Hp → Prop} (C : Cx ΛC x l RX11 cX11_sumOfBoxes rm_f11_sumOfBoxes (some .int) 5 post0) {K : Int32 → Prop} (x1 : Int32) (h : Hp) (hR : ∀ v : Int32, K v → post0 (some (.int v)) h) (T : Tt (f11_sumOfBoxes x1 h) K) : G ΛC x 0 [(0, .ref 0), (1, .int x1)] [] h := by
  refine g_iconst (v := 0) C dX11_sumOfBoxes_0 (by decide) ?_
  refine g_istore_n (L' := [(2, .int 0), (0, .ref 0), (1, .int x1)]) C dX11_sumOfBoxes_1 rfl (by decide) rfl ?_
  refine g_iconst (v := 0) C dX11_sumOfBoxes_2 (by decide) ?_
  refine g_istore_n (L' := [(3, .int 0), (2, .int 0), (0, .ref 0), (1, .int x1)]) C dX11_sumOfBoxes_3 rfl (by decide) rfl ?_
  refine g_sub [2, 3, 1, 0] rfl ?_
  exact k_f11_sumOfBoxes_4 C x1 0 0 h hR T

theorem ok_f11_sumOfBoxes {l : Launch} {K : Int32 → Prop} (x1 : Int32) (h : Hp) (T : Tt (f11_sumOfBoxes x1 h) K) : Ok ΛC l yX11_sumOfBoxes cX11_sumOfBoxes 5 (some .int) rm_f11_sumOfBoxes [.ref 0, .int x1] h (PIs K h) :=
  Ok.of RX11 rfl (by decide) ⟨rfl, rfl⟩ (Nat.le_of_ble_eq_true rfl) (fun x C => k_f11_sumOfBoxes C x1 h (fun v q => ⟨v, rfl, rfl, q⟩) T)

abbrev rm_f11_count : Room := { frames := 2, cells := 0, slots := 0, locals := 44 }
noncomputable def f11_count (x1 : Int32) (h : Hp) : Option (Int32) :=
  if x1 = 0 then (some (h.1 6 1)) else if x1 = 1 then ((h.2.2 0 11).bind fun p3 => gd (decide (kdC p3 = 10)) <| some (h.1 p3 7)) else if x1 = 2 then ((h.2.2 0 11).bind fun p6 => gd (decide (kdC p6 = 10)) <| some (h.1 p6 8)) else if x1 = 3 then ((h.2.2 0 11).bind fun p9 => gd (decide (kdC p9 = 10)) <| some (h.1 (p9 + 14) 5)) else if x1 = 4 then (some (h.1 6 2)) else if x1 = 5 then ((f11_sumOfBoxes x1 h).bind fun r13 => some r13) else if x1 = 6 then ((f11_sumOfBoxes x1 h).bind fun r15 => some r15) else if x1 = 7 then ((f11_sumOfBoxes x1 h).bind fun r17 => some r17) else if x1 = 8 then ((f11_sumOfBoxes x1 h).bind fun r19 => some r19) else if x1 = 9 then (some (h.1 6 4)) else if x1 = 10 then (some (h.1 39 5)) else if x1 = 11 then ((f3_firstKnown h).bind fun r23 => some r23) else if x1 = 12 then (some (h.1 34 4)) else (some (-1))
set_option maxRecDepth 100000 in
set_option maxHeartbeats 4000000 in
theorem k_f11_count {x : Mx} {l : Launch} {post0 : Option Value → Hp → Prop} (C : Cx ΛC x l RX11 cX11_count rm_f11_count (some .int) 2 post0) {K : Int32 → Prop} (x1 : Int32) (h : Hp) (hR : ∀ v : Int32, K v → post0 (some (.int v)) h) (T : Tt (f11_count x1 h) K) : G ΛC x 0 [(0, .ref 0), (1, .int x1)] [] h := by
  refine g_iload_n (q := 1) C dX11_count_0 rfl rfl ?_
  by_cases c1 : x1 = 0
  · have T := tt_t T c1
    refine g_tableIn (tgt := 68) C dX11_count_1 (by rw [c1]; decide) (by rw [c1]; decide) (by rw [c1]; rfl) (by decide) ?_
    refine g_aload_n (q := 0) C dX11_count_68 rfl rfl ?_
    refine g_getF (k := 2) (q := 6) C dX11_count_69 (hpC rfl rfl) rfl fl_X11_30 rfl rfl ?_
    refine g_getI (k := 1) C dX11_count_72 (hpC rfl rfl) rfl fl_X11_263 rfl ?_
    exact g_iret C dX11_count_75 (hR _ (tt_some T))
  · have T := tt_f T c1
    by_cases c2 : x1 = 1
    · have T := tt_t T c2
      refine g_tableIn (tgt := 76) C dX11_count_1 (by rw [c2]; decide) (by rw [c2]; decide) (by rw [c2]; rfl) (by decide) ?_
      refine g_aload_n (q := 0) C dX11_count_76 rfl rfl ?_
      obtain ⟨p3, ep3, T⟩ := tt_bind T
      obtain ⟨g4, T⟩ := tt_gd T
      have kp3 : kdC p3 = 10 := of_decide_eq_true g4
      refine g_getD (k := 11) (q := p3) C dX11_count_77 (hpC rfl rfl) rfl fl_X11_82 rfl ep3 ?_
      refine g_getI (k := 7) C dX11_count_80 (hpC kp3 rfl) kp3 fl_X11_344 rfl ?_
      exact g_iret C dX11_count_83 (hR _ (tt_some T))
    · have T := tt_f T c2
      by_cases c5 : x1 = 2
      · have T := tt_t T c5
        refine g_tableIn (tgt := 84) C dX11_count_1 (by rw [c5]; decide) (by rw [c5]; decide) (by rw [c5]; rfl) (by decide) ?_
        refine g_aload_n (q := 0) C dX11_count_84 rfl rfl ?_
        obtain ⟨p6, ep6, T⟩ := tt_bind T
        obtain ⟨g7, T⟩ := tt_gd T
        have kp6 : kdC p6 = 10 := of_decide_eq_true g7
        refine g_getD (k := 11) (q := p6) C dX11_count_85 (hpC rfl rfl) rfl fl_X11_82 rfl ep6 ?_
        refine g_getI (k := 8) C dX11_count_88 (hpC kp6 rfl) kp6 fl_X11_180 rfl ?_
        exact g_iret C dX11_count_91 (hR _ (tt_some T))
      · have T := tt_f T c5
        by_cases c8 : x1 = 3
        · have T := tt_t T c8
          refine g_tableIn (tgt := 92) C dX11_count_1 (by rw [c8]; decide) (by rw [c8]; decide) (by rw [c8]; rfl) (by decide) ?_
          refine g_aload_n (q := 0) C dX11_count_92 rfl rfl ?_
          obtain ⟨p9, ep9, T⟩ := tt_bind T
          obtain ⟨g10, T⟩ := tt_gd T
          have kp9 : kdC p9 = 10 := of_decide_eq_true g10
          refine g_getD (k := 11) (q := p9) C dX11_count_93 (hpC rfl rfl) rfl fl_X11_82 rfl ep9 ?_
          refine g_getF (k := 1) (q := p9 + 14) C dX11_count_96 (hpC kp9 rfl) kp9 fl_X11_194 rfl rfl ?_
          refine g_getI (k := 5) C dX11_count_99 (hpC (kf_10_1 kp9) rfl) (kf_10_1 kp9) fl_X11_347 rfl ?_
          exact g_iret C dX11_count_102 (hR _ (tt_some T))
        · have T := tt_f T c8
          by_cases c11 : x1 = 4
          · have T := tt_t T c11
            refine g_tableIn (tgt := 103) C dX11_count_1 (by rw [c11]; decide) (by rw [c11]; decide) (by rw [c11]; rfl) (by decide) ?_
            refine g_aload_n (q := 0) C dX11_count_103 rfl rfl ?_
            refine g_getF (k := 2) (q := 6) C dX11_count_104 (hpC rfl rfl) rfl fl_X11_30 rfl rfl ?_
            refine g_getI (k := 2) C dX11_count_107 (hpC rfl rfl) rfl fl_X11_198 rfl ?_
            exact g_iret C dX11_count_110 (hR _ (tt_some T))
          · have T := tt_f T c11
            by_cases c12 : x1 = 5
            · have T := tt_t T c12
              refine g_tableIn (tgt := 111) C dX11_count_1 (by rw [c12]; decide) (by rw [c12]; decide) (by rw [c12]; rfl) (by decide) ?_
              refine g_aload_n (q := 0) C dX11_count_111 rfl rfl ?_
              refine g_iload_n (q := 1) C dX11_count_112 rfl rfl ?_
              refine g_callV (p := 0) (As := [.int x1]) C dX11_count_113 ml_X11_350 yv_f11_sumOfBoxes ⟨rfl, rfl⟩ ⟨Nat.le_of_ble_eq_true rfl, Nat.le_of_ble_eq_true rfl⟩ (hpC rfl rfl) rfl rfl rfl (Nat.le_of_ble_eq_true rfl) (ok_f11_sumOfBoxes x1 h (tt_bind T)) ?_
              rintro _ _ ⟨r13, rfl, rfl, T⟩
              show G ΛC x 116 [(0, .ref 0), (1, .int x1)] [.int r13] h
              exact g_iret C dX11_count_116 (hR _ (tt_some T))
            · have T := tt_f T c12
              by_cases c14 : x1 = 6
              · have T := tt_t T c14
                refine g_tableIn (tgt := 111) C dX11_count_1 (by rw [c14]; decide) (by rw [c14]; decide) (by rw [c14]; rfl) (by decide) ?_
                refine g_aload_n (q := 0) C dX11_count_111 rfl rfl ?_
                refine g_iload_n (q := 1) C dX11_count_112 rfl rfl ?_
                refine g_callV (p := 0) (As := [.int x1]) C dX11_count_113 ml_X11_350 yv_f11_sumOfBoxes ⟨rfl, rfl⟩ ⟨Nat.le_of_ble_eq_true rfl, Nat.le_of_ble_eq_true rfl⟩ (hpC rfl rfl) rfl rfl rfl (Nat.le_of_ble_eq_true rfl) (ok_f11_sumOfBoxes x1 h (tt_bind T)) ?_
                rintro _ _ ⟨r15, rfl, rfl, T⟩
                show G ΛC x 116 [(0, .ref 0), (1, .int x1)] [.int r15] h
                exact g_iret C dX11_count_116 (hR _ (tt_some T))
              · have T := tt_f T c14
                by_cases c16 : x1 = 7
                · have T := tt_t T c16
                  refine g_tableIn (tgt := 111) C dX11_count_1 (by rw [c16]; decide) (by rw [c16]; decide) (by rw [c16]; rfl) (by decide) ?_
                  refine g_aload_n (q := 0) C dX11_count_111 rfl rfl ?_
                  refine g_iload_n (q := 1) C dX11_count_112 rfl rfl ?_
                  refine g_callV (p := 0) (As := [.int x1]) C dX11_count_113 ml_X11_350 yv_f11_sumOfBoxes ⟨rfl, rfl⟩ ⟨Nat.le_of_ble_eq_true rfl, Nat.le_of_ble_eq_true rfl⟩ (hpC rfl rfl) rfl rfl rfl (Nat.le_of_ble_eq_true rfl) (ok_f11_sumOfBoxes x1 h (tt_bind T)) ?_
                  rintro _ _ ⟨r17, rfl, rfl, T⟩
                  show G ΛC x 116 [(0, .ref 0), (1, .int x1)] [.int r17] h
                  exact g_iret C dX11_count_116 (hR _ (tt_some T))
                · have T := tt_f T c16
                  by_cases c18 : x1 = 8
                  · have T := tt_t T c18
                    refine g_tableIn (tgt := 111) C dX11_count_1 (by rw [c18]; decide) (by rw [c18]; decide) (by rw [c18]; rfl) (by decide) ?_
                    refine g_aload_n (q := 0) C dX11_count_111 rfl rfl ?_
                    refine g_iload_n (q := 1) C dX11_count_112 rfl rfl ?_
                    refine g_callV (p := 0) (As := [.int x1]) C dX11_count_113 ml_X11_350 yv_f11_sumOfBoxes ⟨rfl, rfl⟩ ⟨Nat.le_of_ble_eq_true rfl, Nat.le_of_ble_eq_true rfl⟩ (hpC rfl rfl) rfl rfl rfl (Nat.le_of_ble_eq_true rfl) (ok_f11_sumOfBoxes x1 h (tt_bind T)) ?_
                    rintro _ _ ⟨r19, rfl, rfl, T⟩
                    show G ΛC x 116 [(0, .ref 0), (1, .int x1)] [.int r19] h
                    exact g_iret C dX11_count_116 (hR _ (tt_some T))
                  · have T := tt_f T c18
                    by_cases c20 : x1 = 9
                    · have T := tt_t T c20
                      refine g_tableIn (tgt := 117) C dX11_count_1 (by rw [c20]; decide) (by rw [c20]; decide) (by rw [c20]; rfl) (by decide) ?_
                      refine g_aload_n (q := 0) C dX11_count_117 rfl rfl ?_
                      refine g_getF (k := 2) (q := 6) C dX11_count_118 (hpC rfl rfl) rfl fl_X11_30 rfl rfl ?_
                      refine g_getI (k := 4) C dX11_count_121 (hpC rfl rfl) rfl fl_X11_353 rfl ?_
                      exact g_iret C dX11_count_124 (hR _ (tt_some T))
                    · have T := tt_f T c20
                      by_cases c21 : x1 = 10
                      · have T := tt_t T c21
                        refine g_tableIn (tgt := 125) C dX11_count_1 (by rw [c21]; decide) (by rw [c21]; decide) (by rw [c21]; rfl) (by decide) ?_
                        refine g_aload_n (q := 0) C dX11_count_125 rfl rfl ?_
                        refine g_getF (k := 5) (q := 39) C dX11_count_126 (hpC rfl rfl) rfl fl_X11_47 rfl rfl ?_
                        refine g_getI (k := 5) C dX11_count_129 (hpC rfl rfl) rfl fl_X11_318 rfl ?_
                        exact g_iret C dX11_count_132 (hR _ (tt_some T))
                      · have T := tt_f T c21
                        by_cases c22 : x1 = 11
                        · have T := tt_t T c22
                          refine g_tableIn (tgt := 133) C dX11_count_1 (by rw [c22]; decide) (by rw [c22]; decide) (by rw [c22]; rfl) (by decide) ?_
                          refine g_aload_n (q := 0) C dX11_count_133 rfl rfl ?_
                          refine g_getF (k := 5) (q := 39) C dX11_count_134 (hpC rfl rfl) rfl fl_X11_47 rfl rfl ?_
                          refine g_callV (p := 39) (As := []) C dX11_count_137 ml_X11_356 yv_f3_firstKnown ⟨rfl, rfl⟩ ⟨Nat.le_of_ble_eq_true rfl, Nat.le_of_ble_eq_true rfl⟩ (hpC rfl rfl) rfl rfl rfl (Nat.le_of_ble_eq_true rfl) (ok_f3_firstKnown h (tt_bind T)) ?_
                          rintro _ _ ⟨r23, rfl, rfl, T⟩
                          show G ΛC x 140 [(0, .ref 0), (1, .int x1)] [.int r23] h
                          exact g_iret C dX11_count_140 (hR _ (tt_some T))
                        · have T := tt_f T c22
                          by_cases c24 : x1 = 12
                          · have T := tt_t T c24
                            refine g_tableIn (tgt := 141) C dX11_count_1 (by rw [c24]; decide) (by rw [c24]; decide) (by rw [c24]; rfl) (by decide) ?_
                            refine g_aload_n (q := 0) C dX11_count_141 rfl rfl ?_
                            refine g_getF (k := 4) (q := 34) C dX11_count_142 (hpC rfl rfl) rfl fl_X11_40 rfl rfl ?_
                            refine g_getI (k := 4) C dX11_count_145 (hpC rfl rfl) rfl fl_X11_338 rfl ?_
                            exact g_iret C dX11_count_148 (hR _ (tt_some T))
                          · have T := tt_f T c24
                            have zc1 := ne32 c1
                            have zc2 := ne32 c2
                            have zc5 := ne32 c5
                            have zc8 := ne32 c8
                            have zc11 := ne32 c11
                            have zc12 := ne32 c12
                            have zc14 := ne32 c14
                            have zc16 := ne32 c16
                            have zc18 := ne32 c18
                            have zc20 := ne32 c20
                            have zc21 := ne32 c21
                            have zc22 := ne32 c22
                            have zc24 := ne32 c24
                            rw [show ((0 : Int32)).toInt = 0 from by decide] at zc1
                            rw [show ((1 : Int32)).toInt = 1 from by decide] at zc2
                            rw [show ((2 : Int32)).toInt = 2 from by decide] at zc5
                            rw [show ((3 : Int32)).toInt = 3 from by decide] at zc8
                            rw [show ((4 : Int32)).toInt = 4 from by decide] at zc11
                            rw [show ((5 : Int32)).toInt = 5 from by decide] at zc12
                            rw [show ((6 : Int32)).toInt = 6 from by decide] at zc14
                            rw [show ((7 : Int32)).toInt = 7 from by decide] at zc16
                            rw [show ((8 : Int32)).toInt = 8 from by decide] at zc18
                            rw [show ((9 : Int32)).toInt = 9 from by decide] at zc20
                            rw [show ((10 : Int32)).toInt = 10 from by decide] at zc21
                            rw [show ((11 : Int32)).toInt = 11 from by decide] at zc22
                            rw [show ((12 : Int32)).toInt = 12 from by decide] at zc24
                            refine g_tableOut (tgt := 149) C dX11_count_1 (by omega) (by decide) ?_
                            refine g_iconst (v := (-1)) C dX11_count_149 (by decide) ?_
                            exact g_iret C dX11_count_150 (hR _ (tt_some T))

theorem ok_f11_count {l : Launch} {K : Int32 → Prop} (x1 : Int32) (h : Hp) (T : Tt (f11_count x1 h) K) : Ok ΛC l yX11_count cX11_count 2 (some .int) rm_f11_count [.ref 0, .int x1] h (PIs K h) :=
  Ok.of RX11 rfl (by decide) ⟨rfl, rfl⟩ (Nat.le_of_ble_eq_true rfl) (fun x C => k_f11_count C x1 h (fun v q => ⟨v, rfl, rfl, q⟩) T)
