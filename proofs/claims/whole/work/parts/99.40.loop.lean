/-! The law's loop. -/
section LOOP
variable {x : Lx} {pc : Nat} {V : List (Nat × Value)} {st : List Value} {hc hm : Hp} {f : Nat → Int64} {cells slots i : Nat}
theorem l_widen {k n : Nat} (h1 : cells ≤ k) (h2 : slots ≤ n) (kk : LG x pc V st hc hm f k n) : LG x pc V st hc hm f cells slots := by
  obtain ⟨p, l, e, s, m, below, meth, c, D, a, b, o, cy, bs, L, xs⟩ := x
  intro H locs ls hP hQ hO hS hl
  exact W.widen h1 h2 (kk H locs ls hP hQ hO hS hl)
theorem l_in {v : Int32} {off : Int} {tgt : Nat} (C : Cl x) (h1 : ¬ v.toInt < 0) (h2 : ¬ 45 < v.toInt) (ho : (#[200, 273, 298, 323, 360, 428, 465, 502, 539, 576, 614, 651, 704, 769, 794, 843, 892, 941, 954, 991, 1028, 1065, 1078, 1115, 1128, 1153, 1202, 1227, 1252, 1289, 1314, 1339, 1364, 1401, 1414, 1427, 1452, 1517, 1542, 1567, 1592, 1653, 1702, 1715, 1728, 1741] : Array Int)[(v.toInt - 0).toNat]? = some off) (ht : ((40 : Nat) : Int) + off = (tgt : Int)) (k : LG x tgt V st hc hm f cells slots) : LG x 40 V (.int v :: st) hc hm f cells slots := by
  obtain ⟨p, l, e, s, m, below, meth, c, D, a, b, o, cy, bs, L, xs⟩ := x
  obtain ⟨hx, hb, hr, hml, hown, hts, hX, hbl, hlk, hK, hZ, hap, hL, hfl⟩ := C
  intro H locs ls hP hQ hO hS hl
  exact lv_tableIn hx hb dL_law_40 h1 h2 ho ht (k H locs ls hP hQ hO hS hl)
theorem l_none {v : Int32} (C : Cl x) (h : v.toInt < 0 ∨ 45 < v.toInt) (k : LG x 1806 V st hc hm f cells slots) : LG x 40 V (.int v :: st) hc hm f cells slots := by
  obtain ⟨p, l, e, s, m, below, meth, c, D, a, b, o, cy, bs, L, xs⟩ := x
  obtain ⟨hx, hb, hr, hml, hown, hts, hX, hbl, hlk, hK, hZ, hap, hL, hfl⟩ := C
  intro H locs ls hP hQ hO hS hl
  exact lv_tableOut (tgt := 1806) hx hb dL_law_40 h (by decide) (k H locs ls hP hQ hO hS hl)
theorem l_disp {S : Sp} {t : Nat} (C : Cl x) (B : Cbx x) (hi : i + 6 ≤ lxL x) (hcs : cells + 1 ≤ room_1.cells ∧ slots + 6 ≤ room_1.slots) (R : RR S t hc hm) (Kk : ∀ S t hc' hm' f', RR S t hc' hm' → LG x 1806 (Vs x i) [] hc' hm' f' (cells + 1) (slots + 6)) (v : Int32) : LG x 40 (Vs x i) [.int v] hc hm f cells slots := by
  have hcs0 : cells ≤ room_1.cells ∧ slots ≤ room_1.slots := ⟨by omega, by omega⟩
  have K0 : ∀ S t hc' hm', RR S t hc' hm' → LG x 1806 (Vs x i) [] hc' hm' f cells slots := fun S t hc' hm' R' => l_widen (by omega) (by omega) (Kk S t hc' hm' f R')
  by_cases h0 : v < 0
  · refine l_none C (Or.inl ?_) (K0 _ _ _ _ R)
    rw [Int32.lt_iff_toInt_lt] at h0
    exact h0
  · obtain ⟨k, hk, rfl⟩ := nI_of h0
    by_cases h45 : 45 < k
    · refine l_none C (Or.inr ?_) (K0 _ _ _ _ R)
      rw [nI_toInt hk]
      omega
    · have ks : k = 0 ∨ k = 1 ∨ k = 2 ∨ k = 3 ∨ k = 4 ∨ k = 5 ∨ k = 6 ∨ k = 7 ∨ k = 8 ∨ k = 9 ∨ k = 10 ∨ k = 11 ∨ k = 12 ∨ k = 13 ∨ k = 14 ∨ k = 15 ∨ k = 16 ∨ k = 17 ∨ k = 18 ∨ k = 19 ∨ k = 20 ∨ k = 21 ∨ k = 22 ∨ k = 23 ∨ k = 24 ∨ k = 25 ∨ k = 26 ∨ k = 27 ∨ k = 28 ∨ k = 29 ∨ k = 30 ∨ k = 31 ∨ k = 32 ∨ k = 33 ∨ k = 34 ∨ k = 35 ∨ k = 36 ∨ k = 37 ∨ k = 38 ∨ k = 39 ∨ k = 40 ∨ k = 41 ∨ k = 42 ∨ k = 43 ∨ k = 44 ∨ k = 45 := by omega
      rcases ks with rfl | rfl | rfl | rfl | rfl | rfl | rfl | rfl | rfl | rfl | rfl | rfl | rfl | rfl | rfl | rfl | rfl | rfl | rfl | rfl | rfl | rfl | rfl | rfl | rfl | rfl | rfl | rfl | rfl | rfl | rfl | rfl | rfl | rfl | rfl | rfl | rfl | rfl | rfl | rfl | rfl | rfl | rfl | rfl | rfl | rfl
      · exact l_in (tgt := 240) C (by decide) (by decide) rfl (by decide) (case_feed C hi hcs0 R K0)
      · exact l_in (tgt := 313) C (by decide) (by decide) rfl (by decide) (case_text C hi hcs0 R K0)
      · exact l_in (tgt := 338) C (by decide) (by decide) rfl (by decide) (case_fault C hi hcs0 R K0)
      · exact l_in (tgt := 363) C (by decide) (by decide) rfl (by decide) (case_named C hi hcs0 R K0)
      · exact l_in (tgt := 400) C (by decide) (by decide) rfl (by decide) (case_box C B hi hcs R Kk)
      · exact l_in (tgt := 468) C (by decide) (by decide) rfl (by decide) (case_pin C hi hcs0 R K0)
      · exact l_in (tgt := 505) C (by decide) (by decide) rfl (by decide) (case_heard C hi hcs0 R K0)
      · exact l_in (tgt := 542) C (by decide) (by decide) rfl (by decide) (case_guest C hi hcs0 R K0)
      · exact l_in (tgt := 579) C (by decide) (by decide) rfl (by decide) (case_kin C hi hcs0 R K0)
      · exact l_in (tgt := 616) C (by decide) (by decide) rfl (by decide) (case_law C hi hcs0 R K0)
      · exact l_in (tgt := 654) C (by decide) (by decide) rfl (by decide) (case_wind C hi hcs0 R K0)
      · exact l_in (tgt := 691) C (by decide) (by decide) rfl (by decide) (case_steal C hi hcs0 R K0)
      · exact l_in (tgt := 744) C (by decide) (by decide) rfl (by decide) (case_tooth C hi hcs0 R K0)
      · exact l_in (tgt := 809) C (by decide) (by decide) rfl (by decide) (case_years C hi hcs0 R K0)
      · exact l_in (tgt := 834) C (by decide) (by decide) rfl (by decide) (case_ahead C hi hcs0 R K0)
      · exact l_in (tgt := 883) C (by decide) (by decide) rfl (by decide) (case_alike C hi hcs0 R K0)
      · exact l_in (tgt := 932) C (by decide) (by decide) rfl (by decide) (case_like C hi hcs0 R K0)
      · exact l_in (tgt := 981) C (by decide) (by decide) rfl (by decide) (case_whose C hi hcs0 R K0)
      · exact l_in (tgt := 994) C (by decide) (by decide) rfl (by decide) (case_fill C hi hcs0 R K0)
      · exact l_in (tgt := 1031) C (by decide) (by decide) rfl (by decide) (case_join C hi hcs0 R K0)
      · exact l_in (tgt := 1068) C (by decide) (by decide) rfl (by decide) (case_duet C hi hcs0 R K0)
      · exact l_in (tgt := 1105) C (by decide) (by decide) rfl (by decide) (case_tree C hi hcs0 R K0)
      · exact l_in (tgt := 1118) C (by decide) (by decide) rfl (by decide) (case_far C hi hcs0 R K0)
      · exact l_in (tgt := 1155) C (by decide) (by decide) rfl (by decide) (case_forged C hi hcs0 R K0)
      · exact l_in (tgt := 1168) C (by decide) (by decide) rfl (by decide) (case_lasts C hi hcs0 R K0)
      · exact l_in (tgt := 1193) C (by decide) (by decide) rfl (by decide) (case_winding C hi hcs0 R K0)
      · exact l_in (tgt := 1242) C (by decide) (by decide) rfl (by decide) (case_laughBack C hi hcs0 R K0)
      · exact l_in (tgt := 1267) C (by decide) (by decide) rfl (by decide) (case_rests C hi hcs0 R K0)
      · exact l_in (tgt := 1292) C (by decide) (by decide) rfl (by decide) (case_rest C hi hcs0 R K0)
      · exact l_in (tgt := 1329) C (by decide) (by decide) rfl (by decide) (case_ask C hi hcs0 R K0)
      · exact l_in (tgt := 1354) C (by decide) (by decide) rfl (by decide) (case_stay C hi hcs0 R K0)
      · exact l_in (tgt := 1379) C (by decide) (by decide) rfl (by decide) (case_line C hi hcs0 R K0)
      · exact l_in (tgt := 1404) C (by decide) (by decide) rfl (by decide) (case_quote C hi hcs0 R K0)
      · exact l_in (tgt := 1441) C (by decide) (by decide) rfl (by decide) (case_merriest C hi hcs0 R K0)
      · exact l_in (tgt := 1454) C (by decide) (by decide) rfl (by decide) (case_silent C hi hcs0 R K0)
      · exact l_in (tgt := 1467) C (by decide) (by decide) rfl (by decide) (case_runDown C hi hcs0 R K0)
      · exact l_in (tgt := 1492) C (by decide) (by decide) rfl (by decide) (case_find C hi hcs0 R K0)
      · exact l_in (tgt := 1557) C (by decide) (by decide) rfl (by decide) (case_strike C hi hcs0 R K0)
      · exact l_in (tgt := 1582) C (by decide) (by decide) rfl (by decide) (case_known C hi hcs0 R K0)
      · exact l_in (tgt := 1607) C (by decide) (by decide) rfl (by decide) (case_sours C hi hcs0 R K0)
      · exact l_in (tgt := 1632) C (by decide) (by decide) rfl (by decide) (case_chance C hi hcs0 R K0)
      · exact l_in (tgt := 1693) C (by decide) (by decide) rfl (by decide) (case_tried C hi hcs0 R K0)
      · exact l_in (tgt := 1742) C (by decide) (by decide) rfl (by decide) (case_undo C hi hcs0 R K0)
      · exact l_in (tgt := 1755) C (by decide) (by decide) rfl (by decide) (case_keep C hi hcs0 R K0)
      · exact l_in (tgt := 1768) C (by decide) (by decide) rfl (by decide) (case_back C hi hcs0 R K0)
      · exact l_in (tgt := 1781) C (by decide) (by decide) rfl (by decide) (case_count C hi hcs0 R K0)
theorem nI_sub6 {L : Nat} (hL : L ≤ 3072) : (Int32.ofNat L - 6).toInt = (L : Int) - 6 := by
  have h1 : (Int32.ofNat L).toInt = (L : Int) := nI_toInt (by omega)
  rw [Int32.toInt_sub, h1]
  show ((L : Int) - 6).bmod (2 ^ 32) = _
  apply Int.bmod_eq_of_le <;> omega
/-- one round of the loop -/
theorem l_round {S : Sp} {t : Nat} (C : Cl x) (B : Cbx x) (hiL : i ≤ lxL x) (hc1 : cells + (lxL x - i) ≤ 601024) (hs1 : slots + 6 * (lxL x - i) ≤ 7293034) (R : RR S t hc hm) (ih : i + 6 ≤ lxL x → ∀ S t hc' hm' f', RR S t hc' hm' → LG x 23 (Vs x (i + 6)) [] hc' hm' f' (cells + 1) (slots + 6)) : LG x 23 (Vs x i) [] hc hm f cells slots := by
  have disp : ∀ v : Int32, i + 6 ≤ lxL x → LG x 40 (Vs x i) [.int v] hc hm f cells slots := fun v hi => by
    refine l_disp C B hi ⟨?_, ?_⟩ R (fun S t hc' hm' f' R' => ?_) v
    · show cells + 1 ≤ 601024; omega
    · show slots + 6 ≤ 7293034; omega
    · have k := ih hi S t hc' hm' f' R'
      obtain ⟨p, l, e, s, m, below, meth, c, D, a, b, o, cy, bs, L, xs⟩ := x
      obtain ⟨hx, hb, hr, hml, hown, hts, hX, hbl, hlk, hK, hZ, hap, hL, hfl⟩ := C
      intro H locs ls hP hQ hO hS hl
      refine lv_iinc (k := 0) (v := nI (i + 6)) hx hb dL_law_1806 hl rfl (by rw [← nI_add]; rfl) (by decide) rfl (fun ls' hl' => ?_)
      refine lv_goto (tgt := 23) hx hb dL_law_1809 (by decide) ?_
      exact k H locs ls' hP hQ hO hS hl'
  obtain ⟨p, l, e, s, m, below, meth, c, D, a, b, o, cy, bs, L, xs⟩ := x
  obtain ⟨hx, hb, hr, hml, hown, hts, hX, hbl, hlk, hK, hZ, hap, hL, hfl⟩ := C
  have hiL : i ≤ L := hiL
  intro H locs ls hP hQ hO hS hl
  refine lv_iload hx hb dL_law_23 (lv_at hl 0 rfl) ?_
  refine lv_aload_n hx hb dL_law_25 rfl (lv_at hl 4 rfl) ?_
  refine va_slen hx hb hX hbl (Nat.not_le.mpr hbl) hS dL_law_26 ?_
  refine lv_bipush (v := 6) hx hb dL_law_27 (by decide) ?_
  refine lv_isub hx hb dL_law_29 ?_
  refine lv_icmp_gt (tgt := 1812) hx hb dL_law_30 (by decide) (fun _ => ?_) (fun z => ?_)
  · refine lv_iconst (v := 1) hx hb dL_law_1812 (by decide) ?_
    refine va_forget hS.2.2 ?_
    refine W.widen (k := 601024) (n := 7293034) (by omega) (by omega) ?_
    exact lw_ret hx hb hr hlk dL_law_1813
  · rw [Int32.lt_iff_toInt_lt, nI_sub6 hL, nI_toInt (by omega)] at z
    have hi : i + 6 ≤ L := by omega
    refine lv_aload_n hx hb dL_law_33 rfl (lv_at hl 4 rfl) ?_
    refine lv_iload hx hb dL_law_34 (lv_at hl 0 rfl) ?_
    refine va_sld hx hb hX hbl (Nat.not_le.mpr hbl) hS (vp_in_nI (show i < L by omega) (by omega)) dL_law_36 ?_
    refine lv_bipush (v := 63) hx hb dL_law_37 (by decide) ?_
    refine lv_iand hx hb dL_law_39 ?_
    exact disp _ hi H locs ls hP hQ hO hS hl
theorem l_loop (C : Cl x) (B : Cbx x) : ∀ (n i : Nat) (S : Sp) (t : Nat) (hc hm : Hp) (f : Nat → Int64) (cells slots : Nat), lxL x - i ≤ n → i ≤ lxL x → cells + (lxL x - i) ≤ 601024 → slots + 6 * (lxL x - i) ≤ 7293034 → RR S t hc hm → LG x 23 (Vs x i) [] hc hm f cells slots := by
  intro n
  induction n with
  | zero => exact fun i S t hc hm f cells slots h1 h2 h3 h4 R => l_round C B h2 h3 h4 R (fun z => absurd z (by omega))
  | succ n ih => exact fun i S t hc hm f cells slots h1 h2 h3 h4 R => l_round C B h2 h3 h4 R (fun z S t hc' hm' f' R' => ih (i + 6) S t hc' hm' f' _ _ (by omega) (by omega) (by omega) (by omega) R')
end LOOP
