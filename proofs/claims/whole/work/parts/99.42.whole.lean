/-! The law from its entry. -/
theorem zw_RL_8 : Kw RL 8 11 [.null, .null, .null, .null, .null, .null, .null, .null, .null, .null, .null, .null, .null, .int 0] := ⟨RX11, TX11, tyX11, rfl, uw_11, tyX11_ok, zc_RL_8, zi_11, in_X11, fun j hj => by
  have hj : j < 14 := hj
  match j, hj with
  | 0, _ => rfl
  | 1, _ => rfl
  | 2, _ => rfl
  | 3, _ => rfl
  | 4, _ => rfl
  | 5, _ => rfl
  | 6, _ => rfl
  | 7, _ => rfl
  | 8, _ => rfl
  | 9, _ => rfl
  | 10, _ => rfl
  | 11, _ => rfl
  | 12, _ => rfl
  | 13, _ => rfl⟩
theorem zw_RL_18 : Kw RL 18 12 [.null, .int 0, .int 0, .null, .int 0, .int 0, .int 0, .int 0, .int 0, .int 0, .int 0, .int 0, .int 0, .int 0, .int 0, .int 0, .int 0, .int 0, .int 0, .int 0, .int 0, .null, .null, .null, .null, .null, .null, .null, .null, .null, .null, .null, .null, .null, .null, .null, .null, .null, .null, .null, .int 0, .int 0, .int 0, .int 0, .int 0, .int 0, .null, .null, .int 0, .null, .null, .null, .null, .null, .null, .null, .null, .long 0, .int 0, .int 0, .int 0, .int 0, .int 0, .null, .null, .int 0, .int 0, .null, .null, .int 0, .null, .int 0, .null, .null, .long 0] := ⟨RX12, TX12, tyX12, rfl, uw_12, tyX12_ok, zc_RL_18, zi_12, in_X12, fun j hj => by
  have hj : j < 75 := hj
  match j, hj with
  | 0, _ => rfl
  | 1, _ => rfl
  | 2, _ => rfl
  | 3, _ => rfl
  | 4, _ => rfl
  | 5, _ => rfl
  | 6, _ => rfl
  | 7, _ => rfl
  | 8, _ => rfl
  | 9, _ => rfl
  | 10, _ => rfl
  | 11, _ => rfl
  | 12, _ => rfl
  | 13, _ => rfl
  | 14, _ => rfl
  | 15, _ => rfl
  | 16, _ => rfl
  | 17, _ => rfl
  | 18, _ => rfl
  | 19, _ => rfl
  | 20, _ => rfl
  | 21, _ => rfl
  | 22, _ => rfl
  | 23, _ => rfl
  | 24, _ => rfl
  | 25, _ => rfl
  | 26, _ => rfl
  | 27, _ => rfl
  | 28, _ => rfl
  | 29, _ => rfl
  | 30, _ => rfl
  | 31, _ => rfl
  | 32, _ => rfl
  | 33, _ => rfl
  | 34, _ => rfl
  | 35, _ => rfl
  | 36, _ => rfl
  | 37, _ => rfl
  | 38, _ => rfl
  | 39, _ => rfl
  | 40, _ => rfl
  | 41, _ => rfl
  | 42, _ => rfl
  | 43, _ => rfl
  | 44, _ => rfl
  | 45, _ => rfl
  | 46, _ => rfl
  | 47, _ => rfl
  | 48, _ => rfl
  | 49, _ => rfl
  | 50, _ => rfl
  | 51, _ => rfl
  | 52, _ => rfl
  | 53, _ => rfl
  | 54, _ => rfl
  | 55, _ => rfl
  | 56, _ => rfl
  | 57, _ => rfl
  | 58, _ => rfl
  | 59, _ => rfl
  | 60, _ => rfl
  | 61, _ => rfl
  | 62, _ => rfl
  | 63, _ => rfl
  | 64, _ => rfl
  | 65, _ => rfl
  | 66, _ => rfl
  | 67, _ => rfl
  | 68, _ => rfl
  | 69, _ => rfl
  | 70, _ => rfl
  | 71, _ => rfl
  | 72, _ => rfl
  | 73, _ => rfl
  | 74, _ => rfl
  | n + 75, h => exact absurd h (by omega)⟩
theorem lap_of {s : State} {a b : Nat → Nat} {o : Nat} {cy : Nat → ClassId} {hc hm : Hp} {e : va_E} (hD : va_D (LA s) ((wd ΛC a cy hc ++ wd ΛM b cy hm) ++ [(o, e)])) : Lap s a b o := by
  have lC : (wd ΛC a cy hc).length = 101 := by unfold wd; rw [List.length_map, List.length_range]
  have lM : (wd ΛM b cy hm).length = 39 := by unfold wd; rw [List.length_map, List.length_range]
  have gC : ∀ p, p < 101 → ((wd ΛC a cy hc ++ wd ΛM b cy hm) ++ [(o, e)])[p]? = some (a p, ent ΛC a cy hc p) := fun p hp => pre_at (pre_at (wd_at (Λ := ΛC) hp))
  have gM : ∀ p, p < 39 → ((wd ΛC a cy hc ++ wd ΛM b cy hm) ++ [(o, e)])[101 + p]? = some (b p, ent ΛM b cy hm p) := fun p hp => by
    refine pre_at ?_
    rw [List.getElem?_append_right (by omega), lC, Nat.add_sub_cancel_left]
    exact wd_at (Λ := ΛM) hp
  have gO : ((wd ΛC a cy hc ++ wd ΛM b cy hm) ++ [(o, e)])[140]? = some (o, e) := by
    have := last_at (w1 := wd ΛC a cy hc ++ wd ΛM b cy hm) (q := (o, e))
    rw [List.length_append, lC, lM] at this
    exact this
  refine ⟨fun p hp => hD.2 _ _ (gC p hp), fun p hp => hD.2 _ _ (gM p hp), hD.2 _ _ gO, fun p q hp hq e => hD.1 _ _ _ _ (gC p hp) (gC q hq) e, fun p q hp hq e => ?_, fun p q hp hq e => ?_, fun p hp e => ?_, fun p hp e => ?_⟩
  · have := hD.1 _ _ _ _ (gM p hp) (gM q hq) e
    omega
  · have := hD.1 _ _ _ _ (gC p hp) (gM q hq) e
    omega
  · have := hD.1 _ _ _ _ (gC p hp) gO e
    omega
  · have := hD.1 _ _ _ _ (gM p hp) gO e
    omega
theorem good_in {y : MethodName} {bytes : ByteArray} {maxL : Nat} (hcd : Cond.code y bytes maxL none ∈ wU) : GoodIn wU (Cond.code y bytes maxL none :: wU) := by
  intro w hw
  have hm : w ∈ wU := by
    rcases List.mem_cons.mp hw with rfl | hw
    · exact hcd
    · exact hw
  exact ⟨hm, good_of_word (List.mem_filter.mp hm).2⟩
set_option maxHeartbeats 1000000 in
theorem whole_start {p : Program} {e : Env} {s : State} {m : MethodId} {below : List Frame} {meth : Method} {c : Code} (l : Launch) (hflags : l.flags = flags0) {b L : Nat} {xs : Nat → Int32} (hL : L ≤ 3072) (C0 : lw_At p s m meth c b L xs) : W p l e room_1 s m #[Value.ref b] below meth c s.heap [] 0 0 (lw_Z below #[Value.ref b] s) (entryFrame m ([Value.ref b] : List Value).toArray 7) := by
  obtain ⟨hx, hb, hr, hml, hown, hts, hX, hbl, hlk, hgv⟩ := C0
  have hw := wU_all hts
  have hg : ∀ c ∈ flatC narrow_1, c.before #[Value.ref b] s = true := fun c hc => flat_of_before _ hgv c (List.mem_append_right _ hc)
  have hA0 : ∀ q, s.heap.size ≤ q → LA s q := fun _ h => h
  obtain ⟨D, cy, hK⟩ := st_K hw (hts _ tb_ao)
  have hNW := st_NW hts
  have hZ : Zs (LA s) s s.heap := st_Z hts hg (fun a ha => Nat.not_le.mpr ha)
  have hl := lv_entry ([.ref b]) (n := 7) (Nat.le_of_ble_eq_true rfl)
  rw [lg_entry_eq]
  generalize (lg_sl ([.ref b]) ++ List.replicate (7 - (lg_sl ([.ref b])).length) Slot.unset).toArray = ls at hl ⊢
  have hl : lv_has ls 7 [(0, .ref b)] := hl
  have n1 := zw_RL_8
  obtain ⟨CN, T, ty0, f1, f2, f3, f4, f5, f6, f7⟩ := n1
  refine va_new (ci := 11) (fs := [.null, .null, .null, .null, .null, .null, .null, .null, .null, .null, .null, .null, .null, .int 0]) (C := CN) (T := T) (N := nF 11) (ws := []) (A := LA s) (H0 := s.heap) (D := D) (tys := tysU cy) (cl := vwCl) hx hb hw f2 ty0 f3 hown (hw _ f4) (hw _ f5) (hw _ f6) hK (fun k q h => (by cases h)) ⟨fun i j p q h => (by cases h), fun k q h => (by cases h)⟩ va_S.rf hA0 f1 f7 (Nat.le_of_ble_eq_true rfl) (Nat.le_of_ble_eq_true rfl) dL_law_0 (fun q1 H1 hP1 hD1 hS1 => ?_)
  refine lv_dup hx hb dL_law_3 rfl ?_
  refine n_run (cy := cy) (L := [(0, .ref b)]) (wr := []) (nL := 7) (b := q1) (st := [.ref q1]) hA0 hP1 hD1 (va_runI (As := []) (rest := [.ref q1]) (n := 0) ⟨hx, hb, hml, hown, hw⟩ (cc_X11 l q1 D cy H1.size) (cwI 0 hw (good_in zd_X11) rfl rfl rfl (hw _ in_X11) (hw _ zl_17) (hw _ zm_X11) rfl ⟨by decide, by decide, by decide +kernel⟩ ⟨Nat.le_of_ble_eq_true rfl, Nat.le_of_ble_eq_true rfl⟩) ⟨CC_blind, fun U hU hW => CC_pre (As := [.ref q1]) (wr := []) hK hA0 hNW hZ hP1 hD1 hS1 U hU hW⟩ rfl rfl hl.1 rfl (lv_room (Nat.le_of_ble_eq_true rfl)) dL_law_4 ⟨Nat.le_of_ble_eq_true rfl, Nat.le_of_ble_eq_true rfl⟩) hS1 hl ?_
  rintro _ ⟨a, ea, rfl⟩
  intro H2 locs2 ls2 hP2 hD2 hS2 hl2
  refine lv_astore_n (lv' := [(1, .ref q1), (0, .ref b)]) hx hb dL_law_7 rfl hl2 (by decide) rfl (fun ls3 hl3 => ?_)
  have n2 := zw_RL_18
  obtain ⟨CM, TM, tyM, g1, g2, g3, g4, g5, g6, g7⟩ := n2
  refine va_new (ci := 12) (fs := [.null, .int 0, .int 0, .null, .int 0, .int 0, .int 0, .int 0, .int 0, .int 0, .int 0, .int 0, .int 0, .int 0, .int 0, .int 0, .int 0, .int 0, .int 0, .int 0, .int 0, .null, .null, .null, .null, .null, .null, .null, .null, .null, .null, .null, .null, .null, .null, .null, .null, .null, .null, .null, .int 0, .int 0, .int 0, .int 0, .int 0, .int 0, .null, .null, .int 0, .null, .null, .null, .null, .null, .null, .null, .null, .long 0, .int 0, .int 0, .int 0, .int 0, .int 0, .null, .null, .int 0, .int 0, .null, .null, .int 0, .null, .int 0, .null, .null, .long 0]) (C := CM) (T := TM) (N := nF 12) (A := LA s) (H0 := s.heap) (D := D) (tys := tysU cy) (cl := vwCl) hx hb hw g2 tyM g3 hown (hw _ g4) (hw _ g5) (hw _ g6) hK hP2 hD2 hS2 hA0 g1 g7 (Nat.le_of_ble_eq_true rfl) (Nat.le_of_ble_eq_true rfl) dL_law_8 (fun q2 H3 hP3 hD3 hS3 => ?_)
  refine lv_dup hx hb dL_law_11 rfl ?_
  refine n_run (cy := cy) (L := [(1, .ref q1), (0, .ref b)]) (wr := [] ++ wd ΛC a cy c0) (nL := 7) (b := q2) (st := [.ref q2]) hA0 hP3 hD3 (va_runI (As := []) (rest := [.ref q2]) (n := 0) ⟨hx, hb, hml, hown, hw⟩ (cc_X12 l q2 D cy H3.size) (cwI 0 hw (good_in zd_X12) rfl rfl rfl (hw _ in_X12) (hw _ zl_20) (hw _ zm_X12) rfl ⟨by decide, by decide, by decide +kernel⟩ ⟨Nat.le_of_ble_eq_true rfl, Nat.le_of_ble_eq_true rfl⟩) ⟨CC_blind, fun U hU hW => CC_pre (As := [.ref q2]) (wr := [] ++ wd ΛC a cy c0) hK hA0 hNW hZ hP3 hD3 hS3 U hU hW⟩ rfl rfl hl3.1 rfl (lv_room (Nat.le_of_ble_eq_true rfl)) dL_law_12 ⟨Nat.le_of_ble_eq_true rfl, Nat.le_of_ble_eq_true rfl⟩) hS3 hl3 ?_
  rintro _ ⟨bM, m2, eb, rfl, m1, e1, e2⟩
  intro H4 locs4 ls4 hP4 hD4 hS4 hl4
  refine lv_astore_n (lv' := [(2, .ref q2), (1, .ref q1), (0, .ref b)]) hx hb dL_law_15 rfl hl4 (by decide) rfl (fun ls5 hl5 => ?_)
  refine lv_iconst (v := 1) hx hb dL_law_16 (by decide) ?_
  refine va_newa (atype := .long) (ty := .long) (N' := 1) (a0 := (1, .inr (.inl (fun _ => 0)))) (A := LA s) (H0 := s.heap) (D := D) (tys := tysU cy) (cl := vwCl) hx hb (hw _ za_long) rfl hK hP4 hD4 hS4 hA0 (fun _ => rfl) (by decide) (by decide) (Nat.le_of_ble_eq_true rfl) (Nat.le_of_ble_eq_true rfl) (Nat.le_of_ble_eq_true rfl) dL_law_17 (fun o cA H5 hK5 hP5 hD5 hS5 => ?_)
  have ec : cA = cy 2 := va_RA_eq (hK5.2 (tysU cy).length _ last_at).2 (hK.2 2 (cy 2, .long) rfl).2
  subst ec
  refine lv_astore_n (lv' := [(3, .ref o), (2, .ref q2), (1, .ref q1), (0, .ref b)]) hx hb dL_law_19 rfl hl5 (by decide) rfl (fun ls6 hl6 => ?_)
  refine lv_iconst (v := 0) hx hb dL_law_20 (by decide) ?_
  refine lv_istore (lv' := [(4, .int 0), (3, .ref o), (2, .ref q2), (1, .ref q1), (0, .ref b)]) hx hb dL_law_21 hl6 (by decide) rfl (fun ls7 hl7 => ?_)
  subst ea; subst eb
  rw [List.nil_append] at hP5 hD5
  have lap := lap_of hD5
  obtain ⟨i1, i2⟩ := st_ref hg
  have lp := l_loop (x := (p, l, e, s, m, below, meth, c, D, a, bM, o, cy, b, L, xs)) ⟨hx, hb, hr, hml, hown, hts, hX, hbl, hlk, hK, hZ, lap, hL, hflags⟩ ⟨i1, i2, st_not hg, st_str1 hts hg, st_str2 hts hg⟩ L 0 (newS D0) 55 c0 m2 (fun _ => 0) 141 4852 (Nat.le_refl _) (Nat.zero_le _) (by show 141 + (L - 0) ≤ 601024; omega) (by show 4852 + 6 * (L - 0) ≤ 7293034; omega) (RR_first e1 e2)
  exact lp H5 locs4 ls7 (fun k q hk => hP5 k q (pre_at (pre_at hk))) (fun k q hk => hP5 (101 + k) q (by
    have hk2 := (wd_get hk).1
    refine pre_at ?_
    rw [List.getElem?_append_right (by unfold wd; rw [List.length_map, List.length_range]; exact Nat.le_add_right _ _)]
    rw [show (wd ΛC a cy c0).length = 101 from by unfold wd; rw [List.length_map, List.length_range], Nat.add_sub_cancel_left]
    exact hk)) (fun k q hk => by
    have hk0 : k = 0 := by
      have := (List.getElem?_eq_some_iff.mp hk).1
      simp [outW] at this; exact this
    subst hk0
    cases hk
    exact hP5 _ _ last_at) hS5 hl7
