/-! The law's calls, one by one. -/
theorem l_st {x : Lx} {pc : Nat} {V : List (Nat × Value)} {st st' : List Value} {hc hm : Hp} {f : Nat → Int64} {cells slots : Nat} (h : st = st') (k : LG x pc V st' hc hm f cells slots) : LG x pc V st hc hm f cells slots := by subst h; exact k
section CASES
variable {x : Lx} {hc hm : Hp} {f : Nat → Int64} {cells slots i : Nat} {S : Sp} {t : Nat}
theorem wi_f11_feed : Cond.instanceMethod yX11_feed ∈ wU := wU_mem (List.mem_append_right _ (List.mem_append_right _ (List.mem_append_left _ (List.mem_of_getElem? (l := tables_1_2) (i := 220) (by decide +kernel))))) (by decide +kernel)
theorem wc_f11_feed : Cond.code yX11_feed cX11_feed 6 (some .int) ∈ wU := wU_mem (List.mem_append_right _ (List.mem_append_right _ (List.mem_append_left _ (List.mem_of_getElem? (l := tables_1_2) (i := 222) (by decide +kernel))))) (by decide +kernel)
theorem wse_f11_feed : Cond.selects RX11 yX11_feed yX11_feed ∈ wU := wU_mem (List.mem_append_right _ (List.mem_append_right _ (List.mem_append_left _ (List.mem_of_getElem? (l := tables_1_2) (i := 221) (by decide +kernel))))) (by decide +kernel)
theorem yw_f11_feed : Yv yX11_feed RX11 11 cX11_feed 6 (some .int) 5 := ⟨wi_f11_feed, wse_f11_feed, in_X11, wc_f11_feed, by decide +kernel, Nat.le_of_ble_eq_true rfl, _, rfl, rfl⟩
theorem wl_21 : Cond.methodLink RL 21 yX11_feed ∈ wU := wU_mem (List.mem_append_right _ (List.mem_append_right _ (List.mem_append_left _ (List.mem_of_getElem? (l := tables_1_2) (i := 219) (by decide +kernel))))) (by decide +kernel)
theorem wi_f12_feed : Cond.instanceMethod yX12_feed ∈ wU := wU_mem (List.mem_append_right _ (List.mem_append_right _ (List.mem_append_right _ (List.mem_append_right _ (List.mem_append_right _ (List.mem_append_right _ (List.mem_append_right _ (List.mem_append_left _ (List.mem_of_getElem? (l := tables_1_7) (i := 38) (by decide +kernel)))))))))) (by decide +kernel)
theorem wc_f12_feed : Cond.code yX12_feed cX12_feed 8 (some .int) ∈ wU := wU_mem (List.mem_append_right _ (List.mem_append_right _ (List.mem_append_right _ (List.mem_append_right _ (List.mem_append_right _ (List.mem_append_right _ (List.mem_append_right _ (List.mem_append_left _ (List.mem_of_getElem? (l := tables_1_7) (i := 40) (by decide +kernel)))))))))) (by decide +kernel)
theorem wse_f12_feed : Cond.selects RX12 yX12_feed yX12_feed ∈ wU := wU_mem (List.mem_append_right _ (List.mem_append_right _ (List.mem_append_right _ (List.mem_append_right _ (List.mem_append_right _ (List.mem_append_right _ (List.mem_append_right _ (List.mem_append_left _ (List.mem_of_getElem? (l := tables_1_7) (i := 39) (by decide +kernel)))))))))) (by decide +kernel)
theorem yw_f12_feed : Yv yX12_feed RX12 12 cX12_feed 8 (some .int) 5 := ⟨wi_f12_feed, wse_f12_feed, in_X12, wc_f12_feed, by decide +kernel, Nat.le_of_ble_eq_true rfl, _, rfl, rfl⟩
theorem wl_25 : Cond.methodLink RL 25 yX12_feed ∈ wU := wU_mem (List.mem_append_right _ (List.mem_append_right _ (List.mem_append_right _ (List.mem_append_right _ (List.mem_append_right _ (List.mem_append_right _ (List.mem_append_right _ (List.mem_append_left _ (List.mem_of_getElem? (l := tables_1_7) (i := 37) (by decide +kernel)))))))))) (by decide +kernel)
theorem case_feed (C : Cl x) (hi : i + 6 ≤ lxL x) (hcs : cells ≤ room_1.cells ∧ slots ≤ room_1.slots) (R : RR S t hc hm) (Kk : ∀ S t hc' hm', RR S t hc' hm' → LG x 1806 (Vs x i) [] hc' hm' f cells slots) : LG x 240 (Vs x i) [] hc hm f cells slots := by
  obtain ⟨S', t', r, c', m', e1, e2, R'⟩ := r_feed R (lxX x (i + 1)) (lxX x (i + 2)) (lxX x (i + 3)) (lxX x (i + 4)) (lxX x (i + 5))
  refine l_aload C dL_law_240 rfl (q := 3) rfl ?_
  refine l_arg (j := 1) (n := 1) C hi (by decide) rfl dL_law_241 dL_law_242 dL_law_244 dL_law_245 dL_law_246 ?_
  refine l_arg (j := 2) (n := 2) C hi (by decide) rfl dL_law_247 dL_law_248 dL_law_250 dL_law_251 dL_law_252 ?_
  refine l_arg (j := 3) (n := 3) C hi (by decide) rfl dL_law_253 dL_law_254 dL_law_256 dL_law_257 dL_law_258 ?_
  refine l_arg (j := 4) (n := 4) C hi (by decide) rfl dL_law_259 dL_law_260 dL_law_262 dL_law_263 dL_law_264 ?_
  refine l_arg (j := 5) (n := 5) C hi (by decide) rfl dL_law_265 dL_law_266 dL_law_268 dL_law_269 dL_law_270 ?_
  refine l_callC (As := [.int (lxX x (i + 1)), .int (lxX x (i + 2)), .int (lxX x (i + 3)), .int (lxX x (i + 4)), .int (lxX x (i + 5))]) (n := 5) C dL_law_271 wl_21 yw_f11_feed ⟨rfl, rfl⟩ ⟨Nat.le_of_ble_eq_true rfl, Nat.le_of_ble_eq_true rfl⟩ hcs rfl rfl (fun _ => rfl) (Nat.le_of_ble_eq_true rfl) rfl (ok_f11_feed (K := fun z => z = (r, c')) _ _ _ _ _ hc ⟨_, e1, rfl⟩) (fun _ _ ad hp => pw_int ad hp) (fun r1 h1 hp1 => ?_)
  obtain ⟨v1, rfl, hv1⟩ := hp1
  obtain ⟨rfl, rfl⟩ := Prod.mk.inj hv1
  refine l_st (st' := [.int _]) rfl ?_
  refine l_aload C dL_law_274 rfl (q := 2) rfl ?_
  refine l_arg (j := 1) (n := 1) C hi (by decide) rfl dL_law_275 dL_law_276 dL_law_278 dL_law_279 dL_law_280 ?_
  refine l_arg (j := 2) (n := 2) C hi (by decide) rfl dL_law_281 dL_law_282 dL_law_284 dL_law_285 dL_law_286 ?_
  refine l_arg (j := 3) (n := 3) C hi (by decide) rfl dL_law_287 dL_law_288 dL_law_290 dL_law_291 dL_law_292 ?_
  refine l_arg (j := 4) (n := 4) C hi (by decide) rfl dL_law_293 dL_law_294 dL_law_296 dL_law_297 dL_law_298 ?_
  refine l_arg (j := 5) (n := 5) C hi (by decide) rfl dL_law_299 dL_law_300 dL_law_302 dL_law_303 dL_law_304 ?_
  refine l_callM (As := [.int (lxX x (i + 1)), .int (lxX x (i + 2)), .int (lxX x (i + 3)), .int (lxX x (i + 4)), .int (lxX x (i + 5))]) (n := 5) C dL_law_305 wl_25 yw_f12_feed ⟨rfl, rfl⟩ ⟨Nat.le_of_ble_eq_true rfl, Nat.le_of_ble_eq_true rfl⟩ hcs rfl rfl (fun _ => rfl) (Nat.le_of_ble_eq_true rfl) rfl (ok_f12_feed (K := fun z => z = (_, m')) _ _ _ _ _ hm ⟨_, e2, rfl⟩) (fun _ _ ad hp => pw_int ad hp) (fun r1 h1 hp1 => ?_)
  obtain ⟨v2, rfl, hv2⟩ := hp1
  obtain ⟨rfl, rfl⟩ := Prod.mk.inj hv2
  refine l_st (st' := [.int _, .int _]) rfl ?_
  refine l_eq (tgt := 1806) C dL_law_308 (by decide) rfl ?_
  exact Kk _ _ _ _ R'
theorem wi_f11_text : Cond.instanceMethod yX11_text ∈ wU := wU_mem (List.mem_append_right _ (List.mem_append_right _ (List.mem_append_left _ (List.mem_of_getElem? (l := tables_1_2) (i := 228) (by decide +kernel))))) (by decide +kernel)
theorem wc_f11_text : Cond.code yX11_text cX11_text 3 (some .int) ∈ wU := wU_mem (List.mem_append_right _ (List.mem_append_right _ (List.mem_append_left _ (List.mem_of_getElem? (l := tables_1_2) (i := 230) (by decide +kernel))))) (by decide +kernel)
theorem wse_f11_text : Cond.selects RX11 yX11_text yX11_text ∈ wU := wU_mem (List.mem_append_right _ (List.mem_append_right _ (List.mem_append_left _ (List.mem_of_getElem? (l := tables_1_2) (i := 229) (by decide +kernel))))) (by decide +kernel)
theorem yw_f11_text : Yv yX11_text RX11 11 cX11_text 3 (some .int) 1 := ⟨wi_f11_text, wse_f11_text, in_X11, wc_f11_text, by decide +kernel, Nat.le_of_ble_eq_true rfl, _, rfl, rfl⟩
theorem wl_26 : Cond.methodLink RL 26 yX11_text ∈ wU := wU_mem (List.mem_append_right _ (List.mem_append_right _ (List.mem_append_left _ (List.mem_of_getElem? (l := tables_1_2) (i := 227) (by decide +kernel))))) (by decide +kernel)
theorem wi_f12_text : Cond.instanceMethod yX12_text ∈ wU := wU_mem (List.mem_append_right _ (List.mem_append_right _ (List.mem_append_right _ (List.mem_append_right _ (List.mem_append_right _ (List.mem_append_right _ (List.mem_append_right _ (List.mem_append_left _ (List.mem_of_getElem? (l := tables_1_7) (i := 42) (by decide +kernel)))))))))) (by decide +kernel)
theorem wc_f12_text : Cond.code yX12_text cX12_text 3 (some .int) ∈ wU := wU_mem (List.mem_append_right _ (List.mem_append_right _ (List.mem_append_right _ (List.mem_append_right _ (List.mem_append_right _ (List.mem_append_right _ (List.mem_append_right _ (List.mem_append_left _ (List.mem_of_getElem? (l := tables_1_7) (i := 44) (by decide +kernel)))))))))) (by decide +kernel)
theorem wse_f12_text : Cond.selects RX12 yX12_text yX12_text ∈ wU := wU_mem (List.mem_append_right _ (List.mem_append_right _ (List.mem_append_right _ (List.mem_append_right _ (List.mem_append_right _ (List.mem_append_right _ (List.mem_append_right _ (List.mem_append_left _ (List.mem_of_getElem? (l := tables_1_7) (i := 43) (by decide +kernel)))))))))) (by decide +kernel)
theorem yw_f12_text : Yv yX12_text RX12 12 cX12_text 3 (some .int) 1 := ⟨wi_f12_text, wse_f12_text, in_X12, wc_f12_text, by decide +kernel, Nat.le_of_ble_eq_true rfl, _, rfl, rfl⟩
theorem wl_30 : Cond.methodLink RL 30 yX12_text ∈ wU := wU_mem (List.mem_append_right _ (List.mem_append_right _ (List.mem_append_right _ (List.mem_append_right _ (List.mem_append_right _ (List.mem_append_right _ (List.mem_append_right _ (List.mem_append_left _ (List.mem_of_getElem? (l := tables_1_7) (i := 41) (by decide +kernel)))))))))) (by decide +kernel)
theorem case_text (C : Cl x) (hi : i + 6 ≤ lxL x) (hcs : cells ≤ room_1.cells ∧ slots ≤ room_1.slots) (R : RR S t hc hm) (Kk : ∀ S t hc' hm', RR S t hc' hm' → LG x 1806 (Vs x i) [] hc' hm' f cells slots) : LG x 313 (Vs x i) [] hc hm f cells slots := by
  obtain ⟨S', t', r, c', m', e1, e2, R'⟩ := r_text R (lxX x (i + 1))
  refine l_aload C dL_law_313 rfl (q := 3) rfl ?_
  refine l_arg (j := 1) (n := 1) C hi (by decide) rfl dL_law_314 dL_law_315 dL_law_317 dL_law_318 dL_law_319 ?_
  refine l_callC (As := [.int (lxX x (i + 1))]) (n := 1) C dL_law_320 wl_26 yw_f11_text ⟨rfl, rfl⟩ ⟨Nat.le_of_ble_eq_true rfl, Nat.le_of_ble_eq_true rfl⟩ hcs rfl rfl (fun _ => rfl) (Nat.le_of_ble_eq_true rfl) rfl (ok_f11_text (K := fun z => z = (r, c')) _ hc ⟨_, e1, rfl⟩) (fun _ _ ad hp => pw_int ad hp) (fun r1 h1 hp1 => ?_)
  obtain ⟨v1, rfl, hv1⟩ := hp1
  obtain ⟨rfl, rfl⟩ := Prod.mk.inj hv1
  refine l_st (st' := [.int _]) rfl ?_
  refine l_aload C dL_law_323 rfl (q := 2) rfl ?_
  refine l_arg (j := 1) (n := 1) C hi (by decide) rfl dL_law_324 dL_law_325 dL_law_327 dL_law_328 dL_law_329 ?_
  refine l_callM (As := [.int (lxX x (i + 1))]) (n := 1) C dL_law_330 wl_30 yw_f12_text ⟨rfl, rfl⟩ ⟨Nat.le_of_ble_eq_true rfl, Nat.le_of_ble_eq_true rfl⟩ hcs rfl rfl (fun _ => rfl) (Nat.le_of_ble_eq_true rfl) rfl (ok_f12_text (K := fun z => z = (_, m')) _ hm ⟨_, e2, rfl⟩) (fun _ _ ad hp => pw_int ad hp) (fun r1 h1 hp1 => ?_)
  obtain ⟨v2, rfl, hv2⟩ := hp1
  obtain ⟨rfl, rfl⟩ := Prod.mk.inj hv2
  refine l_st (st' := [.int _, .int _]) rfl ?_
  refine l_eq (tgt := 1806) C dL_law_333 (by decide) rfl ?_
  exact Kk _ _ _ _ R'
theorem wi_f11_fault : Cond.instanceMethod yX11_fault ∈ wU := wU_mem (List.mem_append_right _ (List.mem_append_right _ (List.mem_append_right _ (List.mem_append_left _ (List.mem_of_getElem? (l := tables_1_3) (i := 199) (by decide +kernel)))))) (by decide +kernel)
theorem wc_f11_fault : Cond.code yX11_fault cX11_fault 2 (some .int) ∈ wU := wU_mem (List.mem_append_right _ (List.mem_append_right _ (List.mem_append_right _ (List.mem_append_left _ (List.mem_of_getElem? (l := tables_1_3) (i := 201) (by decide +kernel)))))) (by decide +kernel)
theorem wse_f11_fault : Cond.selects RX11 yX11_fault yX11_fault ∈ wU := wU_mem (List.mem_append_right _ (List.mem_append_right _ (List.mem_append_right _ (List.mem_append_left _ (List.mem_of_getElem? (l := tables_1_3) (i := 200) (by decide +kernel)))))) (by decide +kernel)
theorem yw_f11_fault : Yv yX11_fault RX11 11 cX11_fault 2 (some .int) 1 := ⟨wi_f11_fault, wse_f11_fault, in_X11, wc_f11_fault, by decide +kernel, Nat.le_of_ble_eq_true rfl, _, rfl, rfl⟩
theorem wl_31 : Cond.methodLink RL 31 yX11_fault ∈ wU := wU_mem (List.mem_append_right _ (List.mem_append_right _ (List.mem_append_right _ (List.mem_append_left _ (List.mem_of_getElem? (l := tables_1_3) (i := 198) (by decide +kernel)))))) (by decide +kernel)
theorem wi_f12_fault : Cond.instanceMethod yX12_fault ∈ wU := wU_mem (List.mem_append_right _ (List.mem_append_right _ (List.mem_append_right _ (List.mem_append_right _ (List.mem_append_right _ (List.mem_append_right _ (List.mem_append_right _ (List.mem_append_left _ (List.mem_of_getElem? (l := tables_1_7) (i := 167) (by decide +kernel)))))))))) (by decide +kernel)
theorem wc_f12_fault : Cond.code yX12_fault cX12_fault 2 (some .int) ∈ wU := wU_mem (List.mem_append_right _ (List.mem_append_right _ (List.mem_append_right _ (List.mem_append_right _ (List.mem_append_right _ (List.mem_append_right _ (List.mem_append_right _ (List.mem_append_left _ (List.mem_of_getElem? (l := tables_1_7) (i := 169) (by decide +kernel)))))))))) (by decide +kernel)
theorem wse_f12_fault : Cond.selects RX12 yX12_fault yX12_fault ∈ wU := wU_mem (List.mem_append_right _ (List.mem_append_right _ (List.mem_append_right _ (List.mem_append_right _ (List.mem_append_right _ (List.mem_append_right _ (List.mem_append_right _ (List.mem_append_left _ (List.mem_of_getElem? (l := tables_1_7) (i := 168) (by decide +kernel)))))))))) (by decide +kernel)
theorem yw_f12_fault : Yv yX12_fault RX12 12 cX12_fault 2 (some .int) 1 := ⟨wi_f12_fault, wse_f12_fault, in_X12, wc_f12_fault, by decide +kernel, Nat.le_of_ble_eq_true rfl, _, rfl, rfl⟩
theorem wl_34 : Cond.methodLink RL 34 yX12_fault ∈ wU := wU_mem (List.mem_append_right _ (List.mem_append_right _ (List.mem_append_right _ (List.mem_append_right _ (List.mem_append_right _ (List.mem_append_right _ (List.mem_append_right _ (List.mem_append_left _ (List.mem_of_getElem? (l := tables_1_7) (i := 166) (by decide +kernel)))))))))) (by decide +kernel)
theorem case_fault (C : Cl x) (hi : i + 6 ≤ lxL x) (hcs : cells ≤ room_1.cells ∧ slots ≤ room_1.slots) (R : RR S t hc hm) (Kk : ∀ S t hc' hm', RR S t hc' hm' → LG x 1806 (Vs x i) [] hc' hm' f cells slots) : LG x 338 (Vs x i) [] hc hm f cells slots := by
  obtain ⟨r, m', e1, e2, R'⟩ := r_fault R (lxX x (i + 1))
  refine l_aload C dL_law_338 rfl (q := 3) rfl ?_
  refine l_arg (j := 1) (n := 1) C hi (by decide) rfl dL_law_339 dL_law_340 dL_law_342 dL_law_343 dL_law_344 ?_
  refine l_callC (As := [.int (lxX x (i + 1))]) (n := 1) C dL_law_345 wl_31 yw_f11_fault ⟨rfl, rfl⟩ ⟨Nat.le_of_ble_eq_true rfl, Nat.le_of_ble_eq_true rfl⟩ hcs rfl rfl (fun _ => rfl) (Nat.le_of_ble_eq_true rfl) rfl (ok_f11_fault (K := fun z => z = r) _ hc ⟨_, e1, rfl⟩) (fun _ _ ad hp => ps_int ad hp) (fun r1 h1 hp1 => ?_)
  obtain ⟨v1, rfl, rfl, rfl⟩ := hp1
  refine l_st (st' := [.int _]) rfl ?_
  refine l_aload C dL_law_348 rfl (q := 2) rfl ?_
  refine l_arg (j := 1) (n := 1) C hi (by decide) rfl dL_law_349 dL_law_350 dL_law_352 dL_law_353 dL_law_354 ?_
  refine l_callM (As := [.int (lxX x (i + 1))]) (n := 1) C dL_law_355 wl_34 yw_f12_fault ⟨rfl, rfl⟩ ⟨Nat.le_of_ble_eq_true rfl, Nat.le_of_ble_eq_true rfl⟩ hcs rfl rfl (fun _ => rfl) (Nat.le_of_ble_eq_true rfl) rfl (ok_f12_fault (K := fun z => z = (_, m')) _ hm ⟨_, e2, rfl⟩) (fun _ _ ad hp => pw_int ad hp) (fun r1 h1 hp1 => ?_)
  obtain ⟨v2, rfl, hv2⟩ := hp1
  obtain ⟨rfl, rfl⟩ := Prod.mk.inj hv2
  refine l_st (st' := [.int _, .int _]) rfl ?_
  refine l_eq (tgt := 1806) C dL_law_358 (by decide) rfl ?_
  exact Kk _ _ _ _ R'
theorem wi_f11_named : Cond.instanceMethod yX11_named ∈ wU := wU_mem (List.mem_append_right _ (List.mem_append_right _ (List.mem_append_right _ (List.mem_append_left _ (List.mem_of_getElem? (l := tables_1_3) (i := 203) (by decide +kernel)))))) (by decide +kernel)
theorem wc_f11_named : Cond.code yX11_named cX11_named 3 (some .int) ∈ wU := wU_mem (List.mem_append_right _ (List.mem_append_right _ (List.mem_append_right _ (List.mem_append_left _ (List.mem_of_getElem? (l := tables_1_3) (i := 205) (by decide +kernel)))))) (by decide +kernel)
theorem wse_f11_named : Cond.selects RX11 yX11_named yX11_named ∈ wU := wU_mem (List.mem_append_right _ (List.mem_append_right _ (List.mem_append_right _ (List.mem_append_left _ (List.mem_of_getElem? (l := tables_1_3) (i := 204) (by decide +kernel)))))) (by decide +kernel)
theorem yw_f11_named : Yv yX11_named RX11 11 cX11_named 3 (some .int) 2 := ⟨wi_f11_named, wse_f11_named, in_X11, wc_f11_named, by decide +kernel, Nat.le_of_ble_eq_true rfl, _, rfl, rfl⟩
theorem wl_35 : Cond.methodLink RL 35 yX11_named ∈ wU := wU_mem (List.mem_append_right _ (List.mem_append_right _ (List.mem_append_right _ (List.mem_append_left _ (List.mem_of_getElem? (l := tables_1_3) (i := 202) (by decide +kernel)))))) (by decide +kernel)
theorem wi_f12_named : Cond.instanceMethod yX12_named ∈ wU := wU_mem (List.mem_append_right _ (List.mem_append_right _ (List.mem_append_right _ (List.mem_append_right _ (List.mem_append_right _ (List.mem_append_right _ (List.mem_append_right _ (List.mem_append_left _ (List.mem_of_getElem? (l := tables_1_7) (i := 171) (by decide +kernel)))))))))) (by decide +kernel)
theorem wc_f12_named : Cond.code yX12_named cX12_named 3 (some .int) ∈ wU := wU_mem (List.mem_append_right _ (List.mem_append_right _ (List.mem_append_right _ (List.mem_append_right _ (List.mem_append_right _ (List.mem_append_right _ (List.mem_append_right _ (List.mem_append_left _ (List.mem_of_getElem? (l := tables_1_7) (i := 173) (by decide +kernel)))))))))) (by decide +kernel)
theorem wse_f12_named : Cond.selects RX12 yX12_named yX12_named ∈ wU := wU_mem (List.mem_append_right _ (List.mem_append_right _ (List.mem_append_right _ (List.mem_append_right _ (List.mem_append_right _ (List.mem_append_right _ (List.mem_append_right _ (List.mem_append_left _ (List.mem_of_getElem? (l := tables_1_7) (i := 172) (by decide +kernel)))))))))) (by decide +kernel)
theorem yw_f12_named : Yv yX12_named RX12 12 cX12_named 3 (some .int) 2 := ⟨wi_f12_named, wse_f12_named, in_X12, wc_f12_named, by decide +kernel, Nat.le_of_ble_eq_true rfl, _, rfl, rfl⟩
theorem wl_38 : Cond.methodLink RL 38 yX12_named ∈ wU := wU_mem (List.mem_append_right _ (List.mem_append_right _ (List.mem_append_right _ (List.mem_append_right _ (List.mem_append_right _ (List.mem_append_right _ (List.mem_append_right _ (List.mem_append_left _ (List.mem_of_getElem? (l := tables_1_7) (i := 170) (by decide +kernel)))))))))) (by decide +kernel)
theorem case_named (C : Cl x) (hi : i + 6 ≤ lxL x) (hcs : cells ≤ room_1.cells ∧ slots ≤ room_1.slots) (R : RR S t hc hm) (Kk : ∀ S t hc' hm', RR S t hc' hm' → LG x 1806 (Vs x i) [] hc' hm' f cells slots) : LG x 363 (Vs x i) [] hc hm f cells slots := by
  obtain ⟨r, m', e1, e2, R'⟩ := r_named R (lxX x (i + 1)) (lxX x (i + 2))
  refine l_aload C dL_law_363 rfl (q := 3) rfl ?_
  refine l_arg (j := 1) (n := 1) C hi (by decide) rfl dL_law_364 dL_law_365 dL_law_367 dL_law_368 dL_law_369 ?_
  refine l_arg (j := 2) (n := 2) C hi (by decide) rfl dL_law_370 dL_law_371 dL_law_373 dL_law_374 dL_law_375 ?_
  refine l_callC (As := [.int (lxX x (i + 1)), .int (lxX x (i + 2))]) (n := 2) C dL_law_376 wl_35 yw_f11_named ⟨rfl, rfl⟩ ⟨Nat.le_of_ble_eq_true rfl, Nat.le_of_ble_eq_true rfl⟩ hcs rfl rfl (fun _ => rfl) (Nat.le_of_ble_eq_true rfl) rfl (ok_f11_named (K := fun z => z = r) _ _ hc ⟨_, e1, rfl⟩) (fun _ _ ad hp => ps_int ad hp) (fun r1 h1 hp1 => ?_)
  obtain ⟨v1, rfl, rfl, rfl⟩ := hp1
  refine l_st (st' := [.int _]) rfl ?_
  refine l_aload C dL_law_379 rfl (q := 2) rfl ?_
  refine l_arg (j := 1) (n := 1) C hi (by decide) rfl dL_law_380 dL_law_381 dL_law_383 dL_law_384 dL_law_385 ?_
  refine l_arg (j := 2) (n := 2) C hi (by decide) rfl dL_law_386 dL_law_387 dL_law_389 dL_law_390 dL_law_391 ?_
  refine l_callM (As := [.int (lxX x (i + 1)), .int (lxX x (i + 2))]) (n := 2) C dL_law_392 wl_38 yw_f12_named ⟨rfl, rfl⟩ ⟨Nat.le_of_ble_eq_true rfl, Nat.le_of_ble_eq_true rfl⟩ hcs rfl rfl (fun _ => rfl) (Nat.le_of_ble_eq_true rfl) rfl (ok_f12_named (K := fun z => z = (_, m')) _ _ hm ⟨_, e2, rfl⟩) (fun _ _ ad hp => pw_int ad hp) (fun r1 h1 hp1 => ?_)
  obtain ⟨v2, rfl, hv2⟩ := hp1
  obtain ⟨rfl, rfl⟩ := Prod.mk.inj hv2
  refine l_st (st' := [.int _, .int _]) rfl ?_
  refine l_eq (tgt := 1806) C dL_law_395 (by decide) rfl ?_
  exact Kk _ _ _ _ R'
theorem wi_f11_pin : Cond.instanceMethod yX11_pin ∈ wU := wU_mem (List.mem_append_right _ (List.mem_append_right _ (List.mem_append_right _ (List.mem_append_left _ (List.mem_of_getElem? (l := tables_1_3) (i := 209) (by decide +kernel)))))) (by decide +kernel)
theorem wc_f11_pin : Cond.code yX11_pin cX11_pin 3 (some .int) ∈ wU := wU_mem (List.mem_append_right _ (List.mem_append_right _ (List.mem_append_right _ (List.mem_append_left _ (List.mem_of_getElem? (l := tables_1_3) (i := 211) (by decide +kernel)))))) (by decide +kernel)
theorem wse_f11_pin : Cond.selects RX11 yX11_pin yX11_pin ∈ wU := wU_mem (List.mem_append_right _ (List.mem_append_right _ (List.mem_append_right _ (List.mem_append_left _ (List.mem_of_getElem? (l := tables_1_3) (i := 210) (by decide +kernel)))))) (by decide +kernel)
theorem yw_f11_pin : Yv yX11_pin RX11 11 cX11_pin 3 (some .int) 2 := ⟨wi_f11_pin, wse_f11_pin, in_X11, wc_f11_pin, by decide +kernel, Nat.le_of_ble_eq_true rfl, _, rfl, rfl⟩
theorem wl_49 : Cond.methodLink RL 49 yX11_pin ∈ wU := wU_mem (List.mem_append_right _ (List.mem_append_right _ (List.mem_append_right _ (List.mem_append_left _ (List.mem_of_getElem? (l := tables_1_3) (i := 208) (by decide +kernel)))))) (by decide +kernel)
theorem wi_f12_pin : Cond.instanceMethod yX12_pin ∈ wU := wU_mem (List.mem_append_right _ (List.mem_append_right _ (List.mem_append_right _ (List.mem_append_right _ (List.mem_append_right _ (List.mem_append_right _ (List.mem_append_right _ (List.mem_append_left _ (List.mem_of_getElem? (l := tables_1_7) (i := 187) (by decide +kernel)))))))))) (by decide +kernel)
theorem wc_f12_pin : Cond.code yX12_pin cX12_pin 3 (some .int) ∈ wU := wU_mem (List.mem_append_right _ (List.mem_append_right _ (List.mem_append_right _ (List.mem_append_right _ (List.mem_append_right _ (List.mem_append_right _ (List.mem_append_right _ (List.mem_append_left _ (List.mem_of_getElem? (l := tables_1_7) (i := 189) (by decide +kernel)))))))))) (by decide +kernel)
theorem wse_f12_pin : Cond.selects RX12 yX12_pin yX12_pin ∈ wU := wU_mem (List.mem_append_right _ (List.mem_append_right _ (List.mem_append_right _ (List.mem_append_right _ (List.mem_append_right _ (List.mem_append_right _ (List.mem_append_right _ (List.mem_append_left _ (List.mem_of_getElem? (l := tables_1_7) (i := 188) (by decide +kernel)))))))))) (by decide +kernel)
theorem yw_f12_pin : Yv yX12_pin RX12 12 cX12_pin 3 (some .int) 2 := ⟨wi_f12_pin, wse_f12_pin, in_X12, wc_f12_pin, by decide +kernel, Nat.le_of_ble_eq_true rfl, _, rfl, rfl⟩
theorem wl_52 : Cond.methodLink RL 52 yX12_pin ∈ wU := wU_mem (List.mem_append_right _ (List.mem_append_right _ (List.mem_append_right _ (List.mem_append_right _ (List.mem_append_right _ (List.mem_append_right _ (List.mem_append_right _ (List.mem_append_left _ (List.mem_of_getElem? (l := tables_1_7) (i := 186) (by decide +kernel)))))))))) (by decide +kernel)
theorem case_pin (C : Cl x) (hi : i + 6 ≤ lxL x) (hcs : cells ≤ room_1.cells ∧ slots ≤ room_1.slots) (R : RR S t hc hm) (Kk : ∀ S t hc' hm', RR S t hc' hm' → LG x 1806 (Vs x i) [] hc' hm' f cells slots) : LG x 468 (Vs x i) [] hc hm f cells slots := by
  obtain ⟨r, m', e1, e2, R'⟩ := r_pin R (lxX x (i + 1)) (lxX x (i + 2))
  refine l_aload C dL_law_468 rfl (q := 3) rfl ?_
  refine l_arg (j := 1) (n := 1) C hi (by decide) rfl dL_law_469 dL_law_470 dL_law_472 dL_law_473 dL_law_474 ?_
  refine l_arg (j := 2) (n := 2) C hi (by decide) rfl dL_law_475 dL_law_476 dL_law_478 dL_law_479 dL_law_480 ?_
  refine l_callC (As := [.int (lxX x (i + 1)), .int (lxX x (i + 2))]) (n := 2) C dL_law_481 wl_49 yw_f11_pin ⟨rfl, rfl⟩ ⟨Nat.le_of_ble_eq_true rfl, Nat.le_of_ble_eq_true rfl⟩ hcs rfl rfl (fun _ => rfl) (Nat.le_of_ble_eq_true rfl) rfl (ok_f11_pin (K := fun z => z = r) _ _ hc ⟨_, e1, rfl⟩) (fun _ _ ad hp => ps_int ad hp) (fun r1 h1 hp1 => ?_)
  obtain ⟨v1, rfl, rfl, rfl⟩ := hp1
  refine l_st (st' := [.int _]) rfl ?_
  refine l_aload C dL_law_484 rfl (q := 2) rfl ?_
  refine l_arg (j := 1) (n := 1) C hi (by decide) rfl dL_law_485 dL_law_486 dL_law_488 dL_law_489 dL_law_490 ?_
  refine l_arg (j := 2) (n := 2) C hi (by decide) rfl dL_law_491 dL_law_492 dL_law_494 dL_law_495 dL_law_496 ?_
  refine l_callM (As := [.int (lxX x (i + 1)), .int (lxX x (i + 2))]) (n := 2) C dL_law_497 wl_52 yw_f12_pin ⟨rfl, rfl⟩ ⟨Nat.le_of_ble_eq_true rfl, Nat.le_of_ble_eq_true rfl⟩ hcs rfl rfl (fun _ => rfl) (Nat.le_of_ble_eq_true rfl) rfl (ok_f12_pin (K := fun z => z = (_, m')) _ _ hm ⟨_, e2, rfl⟩) (fun _ _ ad hp => pw_int ad hp) (fun r1 h1 hp1 => ?_)
  obtain ⟨v2, rfl, hv2⟩ := hp1
  obtain ⟨rfl, rfl⟩ := Prod.mk.inj hv2
  refine l_st (st' := [.int _, .int _]) rfl ?_
  refine l_eq (tgt := 1806) C dL_law_500 (by decide) rfl ?_
  exact Kk _ _ _ _ R'
theorem wi_f11_heard : Cond.instanceMethod yX11_heard ∈ wU := wU_mem (List.mem_append_right _ (List.mem_append_right _ (List.mem_append_right _ (List.mem_append_left _ (List.mem_of_getElem? (l := tables_1_3) (i := 220) (by decide +kernel)))))) (by decide +kernel)
theorem wc_f11_heard : Cond.code yX11_heard cX11_heard 3 (some .int) ∈ wU := wU_mem (List.mem_append_right _ (List.mem_append_right _ (List.mem_append_right _ (List.mem_append_left _ (List.mem_of_getElem? (l := tables_1_3) (i := 222) (by decide +kernel)))))) (by decide +kernel)
theorem wse_f11_heard : Cond.selects RX11 yX11_heard yX11_heard ∈ wU := wU_mem (List.mem_append_right _ (List.mem_append_right _ (List.mem_append_right _ (List.mem_append_left _ (List.mem_of_getElem? (l := tables_1_3) (i := 221) (by decide +kernel)))))) (by decide +kernel)
theorem yw_f11_heard : Yv yX11_heard RX11 11 cX11_heard 3 (some .int) 2 := ⟨wi_f11_heard, wse_f11_heard, in_X11, wc_f11_heard, by decide +kernel, Nat.le_of_ble_eq_true rfl, _, rfl, rfl⟩
theorem wl_53 : Cond.methodLink RL 53 yX11_heard ∈ wU := wU_mem (List.mem_append_right _ (List.mem_append_right _ (List.mem_append_right _ (List.mem_append_left _ (List.mem_of_getElem? (l := tables_1_3) (i := 219) (by decide +kernel)))))) (by decide +kernel)
theorem wi_f12_heard : Cond.instanceMethod yX12_heard ∈ wU := wU_mem (List.mem_append_right _ (List.mem_append_right _ (List.mem_append_right _ (List.mem_append_right _ (List.mem_append_right _ (List.mem_append_right _ (List.mem_append_right _ (List.mem_append_left _ (List.mem_of_getElem? (l := tables_1_7) (i := 194) (by decide +kernel)))))))))) (by decide +kernel)
theorem wc_f12_heard : Cond.code yX12_heard cX12_heard 3 (some .int) ∈ wU := wU_mem (List.mem_append_right _ (List.mem_append_right _ (List.mem_append_right _ (List.mem_append_right _ (List.mem_append_right _ (List.mem_append_right _ (List.mem_append_right _ (List.mem_append_left _ (List.mem_of_getElem? (l := tables_1_7) (i := 196) (by decide +kernel)))))))))) (by decide +kernel)
theorem wse_f12_heard : Cond.selects RX12 yX12_heard yX12_heard ∈ wU := wU_mem (List.mem_append_right _ (List.mem_append_right _ (List.mem_append_right _ (List.mem_append_right _ (List.mem_append_right _ (List.mem_append_right _ (List.mem_append_right _ (List.mem_append_left _ (List.mem_of_getElem? (l := tables_1_7) (i := 195) (by decide +kernel)))))))))) (by decide +kernel)
theorem yw_f12_heard : Yv yX12_heard RX12 12 cX12_heard 3 (some .int) 2 := ⟨wi_f12_heard, wse_f12_heard, in_X12, wc_f12_heard, by decide +kernel, Nat.le_of_ble_eq_true rfl, _, rfl, rfl⟩
theorem wl_56 : Cond.methodLink RL 56 yX12_heard ∈ wU := wU_mem (List.mem_append_right _ (List.mem_append_right _ (List.mem_append_right _ (List.mem_append_right _ (List.mem_append_right _ (List.mem_append_right _ (List.mem_append_right _ (List.mem_append_left _ (List.mem_of_getElem? (l := tables_1_7) (i := 193) (by decide +kernel)))))))))) (by decide +kernel)
theorem case_heard (C : Cl x) (hi : i + 6 ≤ lxL x) (hcs : cells ≤ room_1.cells ∧ slots ≤ room_1.slots) (R : RR S t hc hm) (Kk : ∀ S t hc' hm', RR S t hc' hm' → LG x 1806 (Vs x i) [] hc' hm' f cells slots) : LG x 505 (Vs x i) [] hc hm f cells slots := by
  obtain ⟨r, m', e1, e2, R'⟩ := r_heard R (lxX x (i + 1)) (lxX x (i + 2))
  refine l_aload C dL_law_505 rfl (q := 3) rfl ?_
  refine l_arg (j := 1) (n := 1) C hi (by decide) rfl dL_law_506 dL_law_507 dL_law_509 dL_law_510 dL_law_511 ?_
  refine l_arg (j := 2) (n := 2) C hi (by decide) rfl dL_law_512 dL_law_513 dL_law_515 dL_law_516 dL_law_517 ?_
  refine l_callC (As := [.int (lxX x (i + 1)), .int (lxX x (i + 2))]) (n := 2) C dL_law_518 wl_53 yw_f11_heard ⟨rfl, rfl⟩ ⟨Nat.le_of_ble_eq_true rfl, Nat.le_of_ble_eq_true rfl⟩ hcs rfl rfl (fun _ => rfl) (Nat.le_of_ble_eq_true rfl) rfl (ok_f11_heard (K := fun z => z = r) _ _ hc ⟨_, e1, rfl⟩) (fun _ _ ad hp => ps_int ad hp) (fun r1 h1 hp1 => ?_)
  obtain ⟨v1, rfl, rfl, rfl⟩ := hp1
  refine l_st (st' := [.int _]) rfl ?_
  refine l_aload C dL_law_521 rfl (q := 2) rfl ?_
  refine l_arg (j := 1) (n := 1) C hi (by decide) rfl dL_law_522 dL_law_523 dL_law_525 dL_law_526 dL_law_527 ?_
  refine l_arg (j := 2) (n := 2) C hi (by decide) rfl dL_law_528 dL_law_529 dL_law_531 dL_law_532 dL_law_533 ?_
  refine l_callM (As := [.int (lxX x (i + 1)), .int (lxX x (i + 2))]) (n := 2) C dL_law_534 wl_56 yw_f12_heard ⟨rfl, rfl⟩ ⟨Nat.le_of_ble_eq_true rfl, Nat.le_of_ble_eq_true rfl⟩ hcs rfl rfl (fun _ => rfl) (Nat.le_of_ble_eq_true rfl) rfl (ok_f12_heard (K := fun z => z = (_, m')) _ _ hm ⟨_, e2, rfl⟩) (fun _ _ ad hp => pw_int ad hp) (fun r1 h1 hp1 => ?_)
  obtain ⟨v2, rfl, hv2⟩ := hp1
  obtain ⟨rfl, rfl⟩ := Prod.mk.inj hv2
  refine l_st (st' := [.int _, .int _]) rfl ?_
  refine l_eq (tgt := 1806) C dL_law_537 (by decide) rfl ?_
  exact Kk _ _ _ _ R'
theorem wi_f11_guest : Cond.instanceMethod yX11_guest ∈ wU := wU_mem (List.mem_append_right _ (List.mem_append_right _ (List.mem_append_right _ (List.mem_append_left _ (List.mem_of_getElem? (l := tables_1_3) (i := 234) (by decide +kernel)))))) (by decide +kernel)
theorem wc_f11_guest : Cond.code yX11_guest cX11_guest 3 (some .int) ∈ wU := wU_mem (List.mem_append_right _ (List.mem_append_right _ (List.mem_append_right _ (List.mem_append_left _ (List.mem_of_getElem? (l := tables_1_3) (i := 236) (by decide +kernel)))))) (by decide +kernel)
theorem wse_f11_guest : Cond.selects RX11 yX11_guest yX11_guest ∈ wU := wU_mem (List.mem_append_right _ (List.mem_append_right _ (List.mem_append_right _ (List.mem_append_left _ (List.mem_of_getElem? (l := tables_1_3) (i := 235) (by decide +kernel)))))) (by decide +kernel)
theorem yw_f11_guest : Yv yX11_guest RX11 11 cX11_guest 3 (some .int) 2 := ⟨wi_f11_guest, wse_f11_guest, in_X11, wc_f11_guest, by decide +kernel, Nat.le_of_ble_eq_true rfl, _, rfl, rfl⟩
theorem wl_57 : Cond.methodLink RL 57 yX11_guest ∈ wU := wU_mem (List.mem_append_right _ (List.mem_append_right _ (List.mem_append_right _ (List.mem_append_left _ (List.mem_of_getElem? (l := tables_1_3) (i := 233) (by decide +kernel)))))) (by decide +kernel)
theorem wi_f12_guest : Cond.instanceMethod yX12_guest ∈ wU := wU_mem (List.mem_append_right _ (List.mem_append_right _ (List.mem_append_right _ (List.mem_append_right _ (List.mem_append_right _ (List.mem_append_right _ (List.mem_append_right _ (List.mem_append_left _ (List.mem_of_getElem? (l := tables_1_7) (i := 209) (by decide +kernel)))))))))) (by decide +kernel)
theorem wc_f12_guest : Cond.code yX12_guest cX12_guest 3 (some .int) ∈ wU := wU_mem (List.mem_append_right _ (List.mem_append_right _ (List.mem_append_right _ (List.mem_append_right _ (List.mem_append_right _ (List.mem_append_right _ (List.mem_append_right _ (List.mem_append_left _ (List.mem_of_getElem? (l := tables_1_7) (i := 211) (by decide +kernel)))))))))) (by decide +kernel)
theorem wse_f12_guest : Cond.selects RX12 yX12_guest yX12_guest ∈ wU := wU_mem (List.mem_append_right _ (List.mem_append_right _ (List.mem_append_right _ (List.mem_append_right _ (List.mem_append_right _ (List.mem_append_right _ (List.mem_append_right _ (List.mem_append_left _ (List.mem_of_getElem? (l := tables_1_7) (i := 210) (by decide +kernel)))))))))) (by decide +kernel)
theorem yw_f12_guest : Yv yX12_guest RX12 12 cX12_guest 3 (some .int) 2 := ⟨wi_f12_guest, wse_f12_guest, in_X12, wc_f12_guest, by decide +kernel, Nat.le_of_ble_eq_true rfl, _, rfl, rfl⟩
theorem wl_60 : Cond.methodLink RL 60 yX12_guest ∈ wU := wU_mem (List.mem_append_right _ (List.mem_append_right _ (List.mem_append_right _ (List.mem_append_right _ (List.mem_append_right _ (List.mem_append_right _ (List.mem_append_right _ (List.mem_append_left _ (List.mem_of_getElem? (l := tables_1_7) (i := 208) (by decide +kernel)))))))))) (by decide +kernel)
theorem case_guest (C : Cl x) (hi : i + 6 ≤ lxL x) (hcs : cells ≤ room_1.cells ∧ slots ≤ room_1.slots) (R : RR S t hc hm) (Kk : ∀ S t hc' hm', RR S t hc' hm' → LG x 1806 (Vs x i) [] hc' hm' f cells slots) : LG x 542 (Vs x i) [] hc hm f cells slots := by
  obtain ⟨r, m', e1, e2, R'⟩ := r_guest R (lxX x (i + 1)) (lxX x (i + 2))
  refine l_aload C dL_law_542 rfl (q := 3) rfl ?_
  refine l_arg (j := 1) (n := 1) C hi (by decide) rfl dL_law_543 dL_law_544 dL_law_546 dL_law_547 dL_law_548 ?_
  refine l_arg (j := 2) (n := 2) C hi (by decide) rfl dL_law_549 dL_law_550 dL_law_552 dL_law_553 dL_law_554 ?_
  refine l_callC (As := [.int (lxX x (i + 1)), .int (lxX x (i + 2))]) (n := 2) C dL_law_555 wl_57 yw_f11_guest ⟨rfl, rfl⟩ ⟨Nat.le_of_ble_eq_true rfl, Nat.le_of_ble_eq_true rfl⟩ hcs rfl rfl (fun _ => rfl) (Nat.le_of_ble_eq_true rfl) rfl (ok_f11_guest (K := fun z => z = r) _ _ hc ⟨_, e1, rfl⟩) (fun _ _ ad hp => ps_int ad hp) (fun r1 h1 hp1 => ?_)
  obtain ⟨v1, rfl, rfl, rfl⟩ := hp1
  refine l_st (st' := [.int _]) rfl ?_
  refine l_aload C dL_law_558 rfl (q := 2) rfl ?_
  refine l_arg (j := 1) (n := 1) C hi (by decide) rfl dL_law_559 dL_law_560 dL_law_562 dL_law_563 dL_law_564 ?_
  refine l_arg (j := 2) (n := 2) C hi (by decide) rfl dL_law_565 dL_law_566 dL_law_568 dL_law_569 dL_law_570 ?_
  refine l_callM (As := [.int (lxX x (i + 1)), .int (lxX x (i + 2))]) (n := 2) C dL_law_571 wl_60 yw_f12_guest ⟨rfl, rfl⟩ ⟨Nat.le_of_ble_eq_true rfl, Nat.le_of_ble_eq_true rfl⟩ hcs rfl rfl (fun _ => rfl) (Nat.le_of_ble_eq_true rfl) rfl (ok_f12_guest (K := fun z => z = (_, m')) _ _ hm ⟨_, e2, rfl⟩) (fun _ _ ad hp => pw_int ad hp) (fun r1 h1 hp1 => ?_)
  obtain ⟨v2, rfl, hv2⟩ := hp1
  obtain ⟨rfl, rfl⟩ := Prod.mk.inj hv2
  refine l_st (st' := [.int _, .int _]) rfl ?_
  refine l_eq (tgt := 1806) C dL_law_574 (by decide) rfl ?_
  exact Kk _ _ _ _ R'
theorem wi_f11_kin : Cond.instanceMethod yX11_kin ∈ wU := wU_mem (List.mem_append_right _ (List.mem_append_right _ (List.mem_append_right _ (List.mem_append_left _ (List.mem_of_getElem? (l := tables_1_3) (i := 238) (by decide +kernel)))))) (by decide +kernel)
theorem wc_f11_kin : Cond.code yX11_kin cX11_kin 3 (some .int) ∈ wU := wU_mem (List.mem_append_right _ (List.mem_append_right _ (List.mem_append_right _ (List.mem_append_right _ (List.mem_append_left _ (List.mem_of_getElem? (l := tables_1_4) (i := 0) (by decide +kernel))))))) (by decide +kernel)
theorem wse_f11_kin : Cond.selects RX11 yX11_kin yX11_kin ∈ wU := wU_mem (List.mem_append_right _ (List.mem_append_right _ (List.mem_append_right _ (List.mem_append_left _ (List.mem_of_getElem? (l := tables_1_3) (i := 239) (by decide +kernel)))))) (by decide +kernel)
theorem yw_f11_kin : Yv yX11_kin RX11 11 cX11_kin 3 (some .int) 2 := ⟨wi_f11_kin, wse_f11_kin, in_X11, wc_f11_kin, by decide +kernel, Nat.le_of_ble_eq_true rfl, _, rfl, rfl⟩
theorem wl_61 : Cond.methodLink RL 61 yX11_kin ∈ wU := wU_mem (List.mem_append_right _ (List.mem_append_right _ (List.mem_append_right _ (List.mem_append_left _ (List.mem_of_getElem? (l := tables_1_3) (i := 237) (by decide +kernel)))))) (by decide +kernel)
theorem wi_f12_kin : Cond.instanceMethod yX12_kin ∈ wU := wU_mem (List.mem_append_right _ (List.mem_append_right _ (List.mem_append_right _ (List.mem_append_right _ (List.mem_append_right _ (List.mem_append_right _ (List.mem_append_right _ (List.mem_append_left _ (List.mem_of_getElem? (l := tables_1_7) (i := 217) (by decide +kernel)))))))))) (by decide +kernel)
theorem wc_f12_kin : Cond.code yX12_kin cX12_kin 3 (some .int) ∈ wU := wU_mem (List.mem_append_right _ (List.mem_append_right _ (List.mem_append_right _ (List.mem_append_right _ (List.mem_append_right _ (List.mem_append_right _ (List.mem_append_right _ (List.mem_append_left _ (List.mem_of_getElem? (l := tables_1_7) (i := 219) (by decide +kernel)))))))))) (by decide +kernel)
theorem wse_f12_kin : Cond.selects RX12 yX12_kin yX12_kin ∈ wU := wU_mem (List.mem_append_right _ (List.mem_append_right _ (List.mem_append_right _ (List.mem_append_right _ (List.mem_append_right _ (List.mem_append_right _ (List.mem_append_right _ (List.mem_append_left _ (List.mem_of_getElem? (l := tables_1_7) (i := 218) (by decide +kernel)))))))))) (by decide +kernel)
theorem yw_f12_kin : Yv yX12_kin RX12 12 cX12_kin 3 (some .int) 2 := ⟨wi_f12_kin, wse_f12_kin, in_X12, wc_f12_kin, by decide +kernel, Nat.le_of_ble_eq_true rfl, _, rfl, rfl⟩
theorem wl_64 : Cond.methodLink RL 64 yX12_kin ∈ wU := wU_mem (List.mem_append_right _ (List.mem_append_right _ (List.mem_append_right _ (List.mem_append_right _ (List.mem_append_right _ (List.mem_append_right _ (List.mem_append_right _ (List.mem_append_left _ (List.mem_of_getElem? (l := tables_1_7) (i := 216) (by decide +kernel)))))))))) (by decide +kernel)
theorem case_kin (C : Cl x) (hi : i + 6 ≤ lxL x) (hcs : cells ≤ room_1.cells ∧ slots ≤ room_1.slots) (R : RR S t hc hm) (Kk : ∀ S t hc' hm', RR S t hc' hm' → LG x 1806 (Vs x i) [] hc' hm' f cells slots) : LG x 579 (Vs x i) [] hc hm f cells slots := by
  obtain ⟨r, m', e1, e2, R'⟩ := r_kin R (lxX x (i + 1)) (lxX x (i + 2))
  refine l_aload C dL_law_579 rfl (q := 3) rfl ?_
  refine l_arg (j := 1) (n := 1) C hi (by decide) rfl dL_law_580 dL_law_581 dL_law_583 dL_law_584 dL_law_585 ?_
  refine l_arg (j := 2) (n := 2) C hi (by decide) rfl dL_law_586 dL_law_587 dL_law_589 dL_law_590 dL_law_591 ?_
  refine l_callC (As := [.int (lxX x (i + 1)), .int (lxX x (i + 2))]) (n := 2) C dL_law_592 wl_61 yw_f11_kin ⟨rfl, rfl⟩ ⟨Nat.le_of_ble_eq_true rfl, Nat.le_of_ble_eq_true rfl⟩ hcs rfl rfl (fun _ => rfl) (Nat.le_of_ble_eq_true rfl) rfl (ok_f11_kin (K := fun z => z = r) _ _ hc ⟨_, e1, rfl⟩) (fun _ _ ad hp => ps_int ad hp) (fun r1 h1 hp1 => ?_)
  obtain ⟨v1, rfl, rfl, rfl⟩ := hp1
  refine l_st (st' := [.int _]) rfl ?_
  refine l_aload C dL_law_595 rfl (q := 2) rfl ?_
  refine l_arg (j := 1) (n := 1) C hi (by decide) rfl dL_law_596 dL_law_597 dL_law_599 dL_law_600 dL_law_601 ?_
  refine l_arg (j := 2) (n := 2) C hi (by decide) rfl dL_law_602 dL_law_603 dL_law_605 dL_law_606 dL_law_607 ?_
  refine l_callM (As := [.int (lxX x (i + 1)), .int (lxX x (i + 2))]) (n := 2) C dL_law_608 wl_64 yw_f12_kin ⟨rfl, rfl⟩ ⟨Nat.le_of_ble_eq_true rfl, Nat.le_of_ble_eq_true rfl⟩ hcs rfl rfl (fun _ => rfl) (Nat.le_of_ble_eq_true rfl) rfl (ok_f12_kin (K := fun z => z = (_, m')) _ _ hm ⟨_, e2, rfl⟩) (fun _ _ ad hp => pw_int ad hp) (fun r1 h1 hp1 => ?_)
  obtain ⟨v2, rfl, hv2⟩ := hp1
  obtain ⟨rfl, rfl⟩ := Prod.mk.inj hv2
  refine l_st (st' := [.int _, .int _]) rfl ?_
  refine l_eq (tgt := 1806) C dL_law_611 (by decide) rfl ?_
  exact Kk _ _ _ _ R'
theorem wi_f11_law : Cond.instanceMethod yX11_law ∈ wU := wU_mem (List.mem_append_right _ (List.mem_append_right _ (List.mem_append_right _ (List.mem_append_right _ (List.mem_append_left _ (List.mem_of_getElem? (l := tables_1_4) (i := 3) (by decide +kernel))))))) (by decide +kernel)
theorem wc_f11_law : Cond.code yX11_law cX11_law 3 (some .long) ∈ wU := wU_mem (List.mem_append_right _ (List.mem_append_right _ (List.mem_append_right _ (List.mem_append_right _ (List.mem_append_left _ (List.mem_of_getElem? (l := tables_1_4) (i := 5) (by decide +kernel))))))) (by decide +kernel)
theorem wse_f11_law : Cond.selects RX11 yX11_law yX11_law ∈ wU := wU_mem (List.mem_append_right _ (List.mem_append_right _ (List.mem_append_right _ (List.mem_append_right _ (List.mem_append_left _ (List.mem_of_getElem? (l := tables_1_4) (i := 4) (by decide +kernel))))))) (by decide +kernel)
theorem yw_f11_law : Yv yX11_law RX11 11 cX11_law 3 (some .long) 2 := ⟨wi_f11_law, wse_f11_law, in_X11, wc_f11_law, by decide +kernel, Nat.le_of_ble_eq_true rfl, _, rfl, rfl⟩
theorem wl_65 : Cond.methodLink RL 65 yX11_law ∈ wU := wU_mem (List.mem_append_right _ (List.mem_append_right _ (List.mem_append_right _ (List.mem_append_right _ (List.mem_append_left _ (List.mem_of_getElem? (l := tables_1_4) (i := 2) (by decide +kernel))))))) (by decide +kernel)
theorem wi_f12_law : Cond.instanceMethod yX12_law ∈ wU := wU_mem (List.mem_append_right _ (List.mem_append_right _ (List.mem_append_right _ (List.mem_append_right _ (List.mem_append_right _ (List.mem_append_right _ (List.mem_append_right _ (List.mem_append_left _ (List.mem_of_getElem? (l := tables_1_7) (i := 221) (by decide +kernel)))))))))) (by decide +kernel)
theorem wc_f12_law : Cond.code yX12_law cX12_law 5 (some .long) ∈ wU := wU_mem (List.mem_append_right _ (List.mem_append_right _ (List.mem_append_right _ (List.mem_append_right _ (List.mem_append_right _ (List.mem_append_right _ (List.mem_append_right _ (List.mem_append_left _ (List.mem_of_getElem? (l := tables_1_7) (i := 223) (by decide +kernel)))))))))) (by decide +kernel)
theorem wse_f12_law : Cond.selects RX12 yX12_law yX12_law ∈ wU := wU_mem (List.mem_append_right _ (List.mem_append_right _ (List.mem_append_right _ (List.mem_append_right _ (List.mem_append_right _ (List.mem_append_right _ (List.mem_append_right _ (List.mem_append_left _ (List.mem_of_getElem? (l := tables_1_7) (i := 222) (by decide +kernel)))))))))) (by decide +kernel)
theorem yw_f12_law : Yv yX12_law RX12 12 cX12_law 5 (some .long) 2 := ⟨wi_f12_law, wse_f12_law, in_X12, wc_f12_law, by decide +kernel, Nat.le_of_ble_eq_true rfl, _, rfl, rfl⟩
theorem wl_69 : Cond.methodLink RL 69 yX12_law ∈ wU := wU_mem (List.mem_append_right _ (List.mem_append_right _ (List.mem_append_right _ (List.mem_append_right _ (List.mem_append_right _ (List.mem_append_right _ (List.mem_append_right _ (List.mem_append_left _ (List.mem_of_getElem? (l := tables_1_7) (i := 220) (by decide +kernel)))))))))) (by decide +kernel)
theorem case_law (C : Cl x) (hi : i + 6 ≤ lxL x) (hcs : cells ≤ room_1.cells ∧ slots ≤ room_1.slots) (R : RR S t hc hm) (Kk : ∀ S t hc' hm', RR S t hc' hm' → LG x 1806 (Vs x i) [] hc' hm' f cells slots) : LG x 616 (Vs x i) [] hc hm f cells slots := by
  obtain ⟨S', t', r, c', m', e1, e2, R'⟩ := r_law R (lxX x (i + 1)) (lxX x (i + 2))
  refine l_aload C dL_law_616 rfl (q := 3) rfl ?_
  refine l_arg (j := 1) (n := 1) C hi (by decide) rfl dL_law_617 dL_law_618 dL_law_620 dL_law_621 dL_law_622 ?_
  refine l_arg (j := 2) (n := 2) C hi (by decide) rfl dL_law_623 dL_law_624 dL_law_626 dL_law_627 dL_law_628 ?_
  refine l_callC (As := [.int (lxX x (i + 1)), .int (lxX x (i + 2))]) (n := 2) C dL_law_629 wl_65 yw_f11_law ⟨rfl, rfl⟩ ⟨Nat.le_of_ble_eq_true rfl, Nat.le_of_ble_eq_true rfl⟩ hcs rfl rfl (fun _ => rfl) (Nat.le_of_ble_eq_true rfl) rfl (ok_f11_law (K := fun z => z = (r, c')) _ _ hc ⟨_, e1, rfl⟩) (fun _ _ ad hp => pw_long ad hp) (fun r1 h1 hp1 => ?_)
  obtain ⟨v1, rfl, hv1⟩ := hp1
  obtain ⟨rfl, rfl⟩ := Prod.mk.inj hv1
  refine l_st (st' := [.long _]) rfl ?_
  refine l_aload C dL_law_632 rfl (q := 2) rfl ?_
  refine l_arg (j := 1) (n := 1) C hi (by decide) rfl dL_law_633 dL_law_634 dL_law_636 dL_law_637 dL_law_638 ?_
  refine l_arg (j := 2) (n := 2) C hi (by decide) rfl dL_law_639 dL_law_640 dL_law_642 dL_law_643 dL_law_644 ?_
  refine l_callM (As := [.int (lxX x (i + 1)), .int (lxX x (i + 2))]) (n := 2) C dL_law_645 wl_69 yw_f12_law ⟨rfl, rfl⟩ ⟨Nat.le_of_ble_eq_true rfl, Nat.le_of_ble_eq_true rfl⟩ hcs rfl rfl (fun _ => rfl) (Nat.le_of_ble_eq_true rfl) rfl (ok_f12_law (K := fun z => z = (_, m')) _ _ hm ⟨_, e2, rfl⟩) (fun _ _ ad hp => pw_long ad hp) (fun r1 h1 hp1 => ?_)
  obtain ⟨v2, rfl, hv2⟩ := hp1
  obtain ⟨rfl, rfl⟩ := Prod.mk.inj hv2
  refine l_st (st' := [.long _, .long _]) rfl ?_
  refine l_lcmp_eq (tgt := 1806) C dL_law_648 dL_law_649 (by decide) ?_
  exact Kk _ _ _ _ R'
theorem wi_f11_wind : Cond.instanceMethod yX11_wind ∈ wU := wU_mem (List.mem_append_right _ (List.mem_append_right _ (List.mem_append_right _ (List.mem_append_right _ (List.mem_append_left _ (List.mem_of_getElem? (l := tables_1_4) (i := 33) (by decide +kernel))))))) (by decide +kernel)
theorem wc_f11_wind : Cond.code yX11_wind cX11_wind 4 (some .int) ∈ wU := wU_mem (List.mem_append_right _ (List.mem_append_right _ (List.mem_append_right _ (List.mem_append_right _ (List.mem_append_left _ (List.mem_of_getElem? (l := tables_1_4) (i := 35) (by decide +kernel))))))) (by decide +kernel)
theorem wse_f11_wind : Cond.selects RX11 yX11_wind yX11_wind ∈ wU := wU_mem (List.mem_append_right _ (List.mem_append_right _ (List.mem_append_right _ (List.mem_append_right _ (List.mem_append_left _ (List.mem_of_getElem? (l := tables_1_4) (i := 34) (by decide +kernel))))))) (by decide +kernel)
theorem yw_f11_wind : Yv yX11_wind RX11 11 cX11_wind 4 (some .int) 2 := ⟨wi_f11_wind, wse_f11_wind, in_X11, wc_f11_wind, by decide +kernel, Nat.le_of_ble_eq_true rfl, _, rfl, rfl⟩
theorem wl_70 : Cond.methodLink RL 70 yX11_wind ∈ wU := wU_mem (List.mem_append_right _ (List.mem_append_right _ (List.mem_append_right _ (List.mem_append_right _ (List.mem_append_left _ (List.mem_of_getElem? (l := tables_1_4) (i := 32) (by decide +kernel))))))) (by decide +kernel)
theorem wi_f12_wind : Cond.instanceMethod yX12_wind ∈ wU := wU_mem (List.mem_append_right _ (List.mem_append_right _ (List.mem_append_right _ (List.mem_append_right _ (List.mem_append_right _ (List.mem_append_right _ (List.mem_append_right _ (List.mem_append_right _ (List.mem_append_left _ (List.mem_of_getElem? (l := tables_1_8) (i := 18) (by decide +kernel))))))))))) (by decide +kernel)
theorem wc_f12_wind : Cond.code yX12_wind cX12_wind 3 (some .int) ∈ wU := wU_mem (List.mem_append_right _ (List.mem_append_right _ (List.mem_append_right _ (List.mem_append_right _ (List.mem_append_right _ (List.mem_append_right _ (List.mem_append_right _ (List.mem_append_right _ (List.mem_append_left _ (List.mem_of_getElem? (l := tables_1_8) (i := 20) (by decide +kernel))))))))))) (by decide +kernel)
theorem wse_f12_wind : Cond.selects RX12 yX12_wind yX12_wind ∈ wU := wU_mem (List.mem_append_right _ (List.mem_append_right _ (List.mem_append_right _ (List.mem_append_right _ (List.mem_append_right _ (List.mem_append_right _ (List.mem_append_right _ (List.mem_append_right _ (List.mem_append_left _ (List.mem_of_getElem? (l := tables_1_8) (i := 19) (by decide +kernel))))))))))) (by decide +kernel)
theorem yw_f12_wind : Yv yX12_wind RX12 12 cX12_wind 3 (some .int) 2 := ⟨wi_f12_wind, wse_f12_wind, in_X12, wc_f12_wind, by decide +kernel, Nat.le_of_ble_eq_true rfl, _, rfl, rfl⟩
theorem wl_73 : Cond.methodLink RL 73 yX12_wind ∈ wU := wU_mem (List.mem_append_right _ (List.mem_append_right _ (List.mem_append_right _ (List.mem_append_right _ (List.mem_append_right _ (List.mem_append_right _ (List.mem_append_right _ (List.mem_append_right _ (List.mem_append_left _ (List.mem_of_getElem? (l := tables_1_8) (i := 17) (by decide +kernel))))))))))) (by decide +kernel)
theorem case_wind (C : Cl x) (hi : i + 6 ≤ lxL x) (hcs : cells ≤ room_1.cells ∧ slots ≤ room_1.slots) (R : RR S t hc hm) (Kk : ∀ S t hc' hm', RR S t hc' hm' → LG x 1806 (Vs x i) [] hc' hm' f cells slots) : LG x 654 (Vs x i) [] hc hm f cells slots := by
  obtain ⟨S', t', r, c', m', e1, e2, R'⟩ := r_wind R (lxX x (i + 1)) (lxX x (i + 2))
  refine l_aload C dL_law_654 rfl (q := 3) rfl ?_
  refine l_arg (j := 1) (n := 1) C hi (by decide) rfl dL_law_655 dL_law_656 dL_law_658 dL_law_659 dL_law_660 ?_
  refine l_arg (j := 2) (n := 2) C hi (by decide) rfl dL_law_661 dL_law_662 dL_law_664 dL_law_665 dL_law_666 ?_
  refine l_callC (As := [.int (lxX x (i + 1)), .int (lxX x (i + 2))]) (n := 2) C dL_law_667 wl_70 yw_f11_wind ⟨rfl, rfl⟩ ⟨Nat.le_of_ble_eq_true rfl, Nat.le_of_ble_eq_true rfl⟩ hcs rfl rfl (fun _ => rfl) (Nat.le_of_ble_eq_true rfl) rfl (ok_f11_wind (K := fun z => z = (r, c')) _ _ hc ⟨_, e1, rfl⟩) (fun _ _ ad hp => pw_int ad hp) (fun r1 h1 hp1 => ?_)
  obtain ⟨v1, rfl, hv1⟩ := hp1
  obtain ⟨rfl, rfl⟩ := Prod.mk.inj hv1
  refine l_st (st' := [.int _]) rfl ?_
  refine l_aload C dL_law_670 rfl (q := 2) rfl ?_
  refine l_arg (j := 1) (n := 1) C hi (by decide) rfl dL_law_671 dL_law_672 dL_law_674 dL_law_675 dL_law_676 ?_
  refine l_arg (j := 2) (n := 2) C hi (by decide) rfl dL_law_677 dL_law_678 dL_law_680 dL_law_681 dL_law_682 ?_
  refine l_callM (As := [.int (lxX x (i + 1)), .int (lxX x (i + 2))]) (n := 2) C dL_law_683 wl_73 yw_f12_wind ⟨rfl, rfl⟩ ⟨Nat.le_of_ble_eq_true rfl, Nat.le_of_ble_eq_true rfl⟩ hcs rfl rfl (fun _ => rfl) (Nat.le_of_ble_eq_true rfl) rfl (ok_f12_wind (K := fun z => z = (_, m')) _ _ hm ⟨_, e2, rfl⟩) (fun _ _ ad hp => pw_int ad hp) (fun r1 h1 hp1 => ?_)
  obtain ⟨v2, rfl, hv2⟩ := hp1
  obtain ⟨rfl, rfl⟩ := Prod.mk.inj hv2
  refine l_st (st' := [.int _, .int _]) rfl ?_
  refine l_eq (tgt := 1806) C dL_law_686 (by decide) rfl ?_
  exact Kk _ _ _ _ R'
theorem wi_f11_steal : Cond.instanceMethod yX11_steal ∈ wU := wU_mem (List.mem_append_right _ (List.mem_append_right _ (List.mem_append_right _ (List.mem_append_right _ (List.mem_append_left _ (List.mem_of_getElem? (l := tables_1_4) (i := 46) (by decide +kernel))))))) (by decide +kernel)
theorem wc_f11_steal : Cond.code yX11_steal cX11_steal 3 (some .boolean) ∈ wU := wU_mem (List.mem_append_right _ (List.mem_append_right _ (List.mem_append_right _ (List.mem_append_right _ (List.mem_append_left _ (List.mem_of_getElem? (l := tables_1_4) (i := 48) (by decide +kernel))))))) (by decide +kernel)
theorem wse_f11_steal : Cond.selects RX11 yX11_steal yX11_steal ∈ wU := wU_mem (List.mem_append_right _ (List.mem_append_right _ (List.mem_append_right _ (List.mem_append_right _ (List.mem_append_left _ (List.mem_of_getElem? (l := tables_1_4) (i := 47) (by decide +kernel))))))) (by decide +kernel)
theorem yw_f11_steal : Yv yX11_steal RX11 11 cX11_steal 3 (some .boolean) 2 := ⟨wi_f11_steal, wse_f11_steal, in_X11, wc_f11_steal, by decide +kernel, Nat.le_of_ble_eq_true rfl, _, rfl, rfl⟩
theorem wl_74 : Cond.methodLink RL 74 yX11_steal ∈ wU := wU_mem (List.mem_append_right _ (List.mem_append_right _ (List.mem_append_right _ (List.mem_append_right _ (List.mem_append_left _ (List.mem_of_getElem? (l := tables_1_4) (i := 45) (by decide +kernel))))))) (by decide +kernel)
theorem wi_f12_steal : Cond.instanceMethod yX12_steal ∈ wU := wU_mem (List.mem_append_right _ (List.mem_append_right _ (List.mem_append_right _ (List.mem_append_right _ (List.mem_append_right _ (List.mem_append_right _ (List.mem_append_right _ (List.mem_append_right _ (List.mem_append_left _ (List.mem_of_getElem? (l := tables_1_8) (i := 30) (by decide +kernel))))))))))) (by decide +kernel)
theorem wc_f12_steal : Cond.code yX12_steal cX12_steal 3 (some .boolean) ∈ wU := wU_mem (List.mem_append_right _ (List.mem_append_right _ (List.mem_append_right _ (List.mem_append_right _ (List.mem_append_right _ (List.mem_append_right _ (List.mem_append_right _ (List.mem_append_right _ (List.mem_append_left _ (List.mem_of_getElem? (l := tables_1_8) (i := 32) (by decide +kernel))))))))))) (by decide +kernel)
theorem wse_f12_steal : Cond.selects RX12 yX12_steal yX12_steal ∈ wU := wU_mem (List.mem_append_right _ (List.mem_append_right _ (List.mem_append_right _ (List.mem_append_right _ (List.mem_append_right _ (List.mem_append_right _ (List.mem_append_right _ (List.mem_append_right _ (List.mem_append_left _ (List.mem_of_getElem? (l := tables_1_8) (i := 31) (by decide +kernel))))))))))) (by decide +kernel)
theorem yw_f12_steal : Yv yX12_steal RX12 12 cX12_steal 3 (some .boolean) 2 := ⟨wi_f12_steal, wse_f12_steal, in_X12, wc_f12_steal, by decide +kernel, Nat.le_of_ble_eq_true rfl, _, rfl, rfl⟩
theorem wl_78 : Cond.methodLink RL 78 yX12_steal ∈ wU := wU_mem (List.mem_append_right _ (List.mem_append_right _ (List.mem_append_right _ (List.mem_append_right _ (List.mem_append_right _ (List.mem_append_right _ (List.mem_append_right _ (List.mem_append_right _ (List.mem_append_left _ (List.mem_of_getElem? (l := tables_1_8) (i := 29) (by decide +kernel))))))))))) (by decide +kernel)
theorem case_steal (C : Cl x) (hi : i + 6 ≤ lxL x) (hcs : cells ≤ room_1.cells ∧ slots ≤ room_1.slots) (R : RR S t hc hm) (Kk : ∀ S t hc' hm', RR S t hc' hm' → LG x 1806 (Vs x i) [] hc' hm' f cells slots) : LG x 691 (Vs x i) [] hc hm f cells slots := by
  obtain ⟨S', t', r, c', m', e1, e2, R'⟩ := r_steal R (lxX x (i + 1)) (is := if (lxX x (i + 2)) = 0 then 0 else 1) (by split <;> omega)
  refine l_aload C dL_law_691 rfl (q := 3) rfl ?_
  refine l_arg (j := 1) (n := 1) C hi (by decide) rfl dL_law_692 dL_law_693 dL_law_695 dL_law_696 dL_law_697 ?_
  refine l_arg (j := 2) (n := 2) C hi (by decide) rfl dL_law_698 dL_law_699 dL_law_701 dL_law_702 dL_law_703 ?_
  refine l_bool C dL_law_704 rfl dL_law_707 dL_law_708 rfl dL_law_711 ?_
  refine l_callC (As := [.int (lxX x (i + 1)), .int (nI (if (lxX x (i + 2)) = 0 then 0 else 1))]) (n := 2) C dL_law_712 wl_74 yw_f11_steal ⟨rfl, rfl⟩ ⟨Nat.le_of_ble_eq_true rfl, Nat.le_of_ble_eq_true rfl⟩ hcs rfl rfl (fun _ => rfl) (Nat.le_of_ble_eq_true rfl) rfl (ok_f11_steal (K := fun z => z = (r, c')) _ _ hc ⟨_, e1, rfl⟩) (fun _ _ ad hp => pw_int ad hp) (fun r1 h1 hp1 => ?_)
  obtain ⟨v1, rfl, hv1⟩ := hp1
  obtain ⟨rfl, rfl⟩ := Prod.mk.inj hv1
  refine l_st (st' := [.int _]) rfl ?_
  refine l_aload C dL_law_715 rfl (q := 2) rfl ?_
  refine l_arg (j := 1) (n := 1) C hi (by decide) rfl dL_law_716 dL_law_717 dL_law_719 dL_law_720 dL_law_721 ?_
  refine l_arg (j := 2) (n := 2) C hi (by decide) rfl dL_law_722 dL_law_723 dL_law_725 dL_law_726 dL_law_727 ?_
  refine l_bool C dL_law_728 rfl dL_law_731 dL_law_732 rfl dL_law_735 ?_
  refine l_callM (As := [.int (lxX x (i + 1)), .int (nI (if (lxX x (i + 2)) = 0 then 0 else 1))]) (n := 2) C dL_law_736 wl_78 yw_f12_steal ⟨rfl, rfl⟩ ⟨Nat.le_of_ble_eq_true rfl, Nat.le_of_ble_eq_true rfl⟩ hcs rfl rfl (fun _ => rfl) (Nat.le_of_ble_eq_true rfl) rfl (ok_f12_steal (K := fun z => z = (_, m')) _ _ hm ⟨_, e2, rfl⟩) (fun _ _ ad hp => pw_int ad hp) (fun r1 h1 hp1 => ?_)
  obtain ⟨v2, rfl, hv2⟩ := hp1
  obtain ⟨rfl, rfl⟩ := Prod.mk.inj hv2
  refine l_st (st' := [.int _, .int _]) rfl ?_
  refine l_eq (tgt := 1806) C dL_law_739 (by decide) rfl ?_
  exact Kk _ _ _ _ R'
theorem wi_f11_tooth : Cond.instanceMethod yX11_tooth ∈ wU := wU_mem (List.mem_append_right _ (List.mem_append_right _ (List.mem_append_right _ (List.mem_append_right _ (List.mem_append_left _ (List.mem_of_getElem? (l := tables_1_4) (i := 50) (by decide +kernel))))))) (by decide +kernel)
theorem wc_f11_tooth : Cond.code yX11_tooth cX11_tooth 5 (some .boolean) ∈ wU := wU_mem (List.mem_append_right _ (List.mem_append_right _ (List.mem_append_right _ (List.mem_append_right _ (List.mem_append_left _ (List.mem_of_getElem? (l := tables_1_4) (i := 52) (by decide +kernel))))))) (by decide +kernel)
theorem wse_f11_tooth : Cond.selects RX11 yX11_tooth yX11_tooth ∈ wU := wU_mem (List.mem_append_right _ (List.mem_append_right _ (List.mem_append_right _ (List.mem_append_right _ (List.mem_append_left _ (List.mem_of_getElem? (l := tables_1_4) (i := 51) (by decide +kernel))))))) (by decide +kernel)
theorem yw_f11_tooth : Yv yX11_tooth RX11 11 cX11_tooth 5 (some .boolean) 3 := ⟨wi_f11_tooth, wse_f11_tooth, in_X11, wc_f11_tooth, by decide +kernel, Nat.le_of_ble_eq_true rfl, _, rfl, rfl⟩
theorem wl_79 : Cond.methodLink RL 79 yX11_tooth ∈ wU := wU_mem (List.mem_append_right _ (List.mem_append_right _ (List.mem_append_right _ (List.mem_append_right _ (List.mem_append_left _ (List.mem_of_getElem? (l := tables_1_4) (i := 49) (by decide +kernel))))))) (by decide +kernel)
theorem wi_f12_tooth : Cond.instanceMethod yX12_tooth ∈ wU := wU_mem (List.mem_append_right _ (List.mem_append_right _ (List.mem_append_right _ (List.mem_append_right _ (List.mem_append_right _ (List.mem_append_right _ (List.mem_append_right _ (List.mem_append_right _ (List.mem_append_left _ (List.mem_of_getElem? (l := tables_1_8) (i := 34) (by decide +kernel))))))))))) (by decide +kernel)
theorem wc_f12_tooth : Cond.code yX12_tooth cX12_tooth 4 (some .boolean) ∈ wU := wU_mem (List.mem_append_right _ (List.mem_append_right _ (List.mem_append_right _ (List.mem_append_right _ (List.mem_append_right _ (List.mem_append_right _ (List.mem_append_right _ (List.mem_append_right _ (List.mem_append_left _ (List.mem_of_getElem? (l := tables_1_8) (i := 36) (by decide +kernel))))))))))) (by decide +kernel)
theorem wse_f12_tooth : Cond.selects RX12 yX12_tooth yX12_tooth ∈ wU := wU_mem (List.mem_append_right _ (List.mem_append_right _ (List.mem_append_right _ (List.mem_append_right _ (List.mem_append_right _ (List.mem_append_right _ (List.mem_append_right _ (List.mem_append_right _ (List.mem_append_left _ (List.mem_of_getElem? (l := tables_1_8) (i := 35) (by decide +kernel))))))))))) (by decide +kernel)
theorem yw_f12_tooth : Yv yX12_tooth RX12 12 cX12_tooth 4 (some .boolean) 3 := ⟨wi_f12_tooth, wse_f12_tooth, in_X12, wc_f12_tooth, by decide +kernel, Nat.le_of_ble_eq_true rfl, _, rfl, rfl⟩
theorem wl_83 : Cond.methodLink RL 83 yX12_tooth ∈ wU := wU_mem (List.mem_append_right _ (List.mem_append_right _ (List.mem_append_right _ (List.mem_append_right _ (List.mem_append_right _ (List.mem_append_right _ (List.mem_append_right _ (List.mem_append_right _ (List.mem_append_left _ (List.mem_of_getElem? (l := tables_1_8) (i := 33) (by decide +kernel))))))))))) (by decide +kernel)
theorem case_tooth (C : Cl x) (hi : i + 6 ≤ lxL x) (hcs : cells ≤ room_1.cells ∧ slots ≤ room_1.slots) (R : RR S t hc hm) (Kk : ∀ S t hc' hm', RR S t hc' hm' → LG x 1806 (Vs x i) [] hc' hm' f cells slots) : LG x 744 (Vs x i) [] hc hm f cells slots := by
  obtain ⟨S', t', r, c', m', e1, e2, R'⟩ := r_tooth R (lxX x (i + 1)) (lxX x (i + 2)) (is := if (lxX x (i + 3)) = 0 then 0 else 1) (by split <;> omega)
  refine l_aload C dL_law_744 rfl (q := 3) rfl ?_
  refine l_arg (j := 1) (n := 1) C hi (by decide) rfl dL_law_745 dL_law_746 dL_law_748 dL_law_749 dL_law_750 ?_
  refine l_arg (j := 2) (n := 2) C hi (by decide) rfl dL_law_751 dL_law_752 dL_law_754 dL_law_755 dL_law_756 ?_
  refine l_arg (j := 3) (n := 3) C hi (by decide) rfl dL_law_757 dL_law_758 dL_law_760 dL_law_761 dL_law_762 ?_
  refine l_bool C dL_law_763 rfl dL_law_766 dL_law_767 rfl dL_law_770 ?_
  refine l_callC (As := [.int (lxX x (i + 1)), .int (lxX x (i + 2)), .int (nI (if (lxX x (i + 3)) = 0 then 0 else 1))]) (n := 3) C dL_law_771 wl_79 yw_f11_tooth ⟨rfl, rfl⟩ ⟨Nat.le_of_ble_eq_true rfl, Nat.le_of_ble_eq_true rfl⟩ hcs rfl rfl (fun _ => rfl) (Nat.le_of_ble_eq_true rfl) rfl (ok_f11_tooth (K := fun z => z = (r, c')) _ _ _ hc ⟨_, e1, rfl⟩) (fun _ _ ad hp => pw_int ad hp) (fun r1 h1 hp1 => ?_)
  obtain ⟨v1, rfl, hv1⟩ := hp1
  obtain ⟨rfl, rfl⟩ := Prod.mk.inj hv1
  refine l_st (st' := [.int _]) rfl ?_
  refine l_aload C dL_law_774 rfl (q := 2) rfl ?_
  refine l_arg (j := 1) (n := 1) C hi (by decide) rfl dL_law_775 dL_law_776 dL_law_778 dL_law_779 dL_law_780 ?_
  refine l_arg (j := 2) (n := 2) C hi (by decide) rfl dL_law_781 dL_law_782 dL_law_784 dL_law_785 dL_law_786 ?_
  refine l_arg (j := 3) (n := 3) C hi (by decide) rfl dL_law_787 dL_law_788 dL_law_790 dL_law_791 dL_law_792 ?_
  refine l_bool C dL_law_793 rfl dL_law_796 dL_law_797 rfl dL_law_800 ?_
  refine l_callM (As := [.int (lxX x (i + 1)), .int (lxX x (i + 2)), .int (nI (if (lxX x (i + 3)) = 0 then 0 else 1))]) (n := 3) C dL_law_801 wl_83 yw_f12_tooth ⟨rfl, rfl⟩ ⟨Nat.le_of_ble_eq_true rfl, Nat.le_of_ble_eq_true rfl⟩ hcs rfl rfl (fun _ => rfl) (Nat.le_of_ble_eq_true rfl) rfl (ok_f12_tooth (K := fun z => z = (_, m')) _ _ _ hm ⟨_, e2, rfl⟩) (fun _ _ ad hp => pw_int ad hp) (fun r1 h1 hp1 => ?_)
  obtain ⟨v2, rfl, hv2⟩ := hp1
  obtain ⟨rfl, rfl⟩ := Prod.mk.inj hv2
  refine l_st (st' := [.int _, .int _]) rfl ?_
  refine l_eq (tgt := 1806) C dL_law_804 (by decide) rfl ?_
  exact Kk _ _ _ _ R'
theorem wi_f11_years : Cond.instanceMethod yX11_years ∈ wU := wU_mem (List.mem_append_right _ (List.mem_append_right _ (List.mem_append_right _ (List.mem_append_right _ (List.mem_append_left _ (List.mem_of_getElem? (l := tables_1_4) (i := 55) (by decide +kernel))))))) (by decide +kernel)
theorem wc_f11_years : Cond.code yX11_years cX11_years 3 (some .int) ∈ wU := wU_mem (List.mem_append_right _ (List.mem_append_right _ (List.mem_append_right _ (List.mem_append_right _ (List.mem_append_left _ (List.mem_of_getElem? (l := tables_1_4) (i := 57) (by decide +kernel))))))) (by decide +kernel)
theorem wse_f11_years : Cond.selects RX11 yX11_years yX11_years ∈ wU := wU_mem (List.mem_append_right _ (List.mem_append_right _ (List.mem_append_right _ (List.mem_append_right _ (List.mem_append_left _ (List.mem_of_getElem? (l := tables_1_4) (i := 56) (by decide +kernel))))))) (by decide +kernel)
theorem yw_f11_years : Yv yX11_years RX11 11 cX11_years 3 (some .int) 1 := ⟨wi_f11_years, wse_f11_years, in_X11, wc_f11_years, by decide +kernel, Nat.le_of_ble_eq_true rfl, _, rfl, rfl⟩
theorem wl_84 : Cond.methodLink RL 84 yX11_years ∈ wU := wU_mem (List.mem_append_right _ (List.mem_append_right _ (List.mem_append_right _ (List.mem_append_right _ (List.mem_append_left _ (List.mem_of_getElem? (l := tables_1_4) (i := 54) (by decide +kernel))))))) (by decide +kernel)
theorem wi_f12_years : Cond.instanceMethod yX12_years ∈ wU := wU_mem (List.mem_append_right _ (List.mem_append_right _ (List.mem_append_right _ (List.mem_append_right _ (List.mem_append_right _ (List.mem_append_right _ (List.mem_append_right _ (List.mem_append_right _ (List.mem_append_left _ (List.mem_of_getElem? (l := tables_1_8) (i := 41) (by decide +kernel))))))))))) (by decide +kernel)
theorem wc_f12_years : Cond.code yX12_years cX12_years 3 (some .int) ∈ wU := wU_mem (List.mem_append_right _ (List.mem_append_right _ (List.mem_append_right _ (List.mem_append_right _ (List.mem_append_right _ (List.mem_append_right _ (List.mem_append_right _ (List.mem_append_right _ (List.mem_append_left _ (List.mem_of_getElem? (l := tables_1_8) (i := 43) (by decide +kernel))))))))))) (by decide +kernel)
theorem wse_f12_years : Cond.selects RX12 yX12_years yX12_years ∈ wU := wU_mem (List.mem_append_right _ (List.mem_append_right _ (List.mem_append_right _ (List.mem_append_right _ (List.mem_append_right _ (List.mem_append_right _ (List.mem_append_right _ (List.mem_append_right _ (List.mem_append_left _ (List.mem_of_getElem? (l := tables_1_8) (i := 42) (by decide +kernel))))))))))) (by decide +kernel)
theorem yw_f12_years : Yv yX12_years RX12 12 cX12_years 3 (some .int) 1 := ⟨wi_f12_years, wse_f12_years, in_X12, wc_f12_years, by decide +kernel, Nat.le_of_ble_eq_true rfl, _, rfl, rfl⟩
theorem wl_87 : Cond.methodLink RL 87 yX12_years ∈ wU := wU_mem (List.mem_append_right _ (List.mem_append_right _ (List.mem_append_right _ (List.mem_append_right _ (List.mem_append_right _ (List.mem_append_right _ (List.mem_append_right _ (List.mem_append_right _ (List.mem_append_left _ (List.mem_of_getElem? (l := tables_1_8) (i := 40) (by decide +kernel))))))))))) (by decide +kernel)
theorem case_years (C : Cl x) (hi : i + 6 ≤ lxL x) (hcs : cells ≤ room_1.cells ∧ slots ≤ room_1.slots) (R : RR S t hc hm) (Kk : ∀ S t hc' hm', RR S t hc' hm' → LG x 1806 (Vs x i) [] hc' hm' f cells slots) : LG x 809 (Vs x i) [] hc hm f cells slots := by
  obtain ⟨S', t', r, c', m', e1, e2, R'⟩ := r_years R (lxX x (i + 1))
  refine l_aload C dL_law_809 rfl (q := 3) rfl ?_
  refine l_arg (j := 1) (n := 1) C hi (by decide) rfl dL_law_810 dL_law_811 dL_law_813 dL_law_814 dL_law_815 ?_
  refine l_callC (As := [.int (lxX x (i + 1))]) (n := 1) C dL_law_816 wl_84 yw_f11_years ⟨rfl, rfl⟩ ⟨Nat.le_of_ble_eq_true rfl, Nat.le_of_ble_eq_true rfl⟩ hcs rfl rfl (fun _ => rfl) (Nat.le_of_ble_eq_true rfl) rfl (ok_f11_years (K := fun z => z = (r, c')) _ hc ⟨_, e1, rfl⟩) (fun _ _ ad hp => pw_int ad hp) (fun r1 h1 hp1 => ?_)
  obtain ⟨v1, rfl, hv1⟩ := hp1
  obtain ⟨rfl, rfl⟩ := Prod.mk.inj hv1
  refine l_st (st' := [.int _]) rfl ?_
  refine l_aload C dL_law_819 rfl (q := 2) rfl ?_
  refine l_arg (j := 1) (n := 1) C hi (by decide) rfl dL_law_820 dL_law_821 dL_law_823 dL_law_824 dL_law_825 ?_
  refine l_callM (As := [.int (lxX x (i + 1))]) (n := 1) C dL_law_826 wl_87 yw_f12_years ⟨rfl, rfl⟩ ⟨Nat.le_of_ble_eq_true rfl, Nat.le_of_ble_eq_true rfl⟩ hcs rfl rfl (fun _ => rfl) (Nat.le_of_ble_eq_true rfl) rfl (ok_f12_years (K := fun z => z = (_, m')) _ hm ⟨_, e2, rfl⟩) (fun _ _ ad hp => pw_int ad hp) (fun r1 h1 hp1 => ?_)
  obtain ⟨v2, rfl, hv2⟩ := hp1
  obtain ⟨rfl, rfl⟩ := Prod.mk.inj hv2
  refine l_st (st' := [.int _, .int _]) rfl ?_
  refine l_eq (tgt := 1806) C dL_law_829 (by decide) rfl ?_
  exact Kk _ _ _ _ R'
theorem wi_f11_ahead : Cond.instanceMethod yX11_ahead ∈ wU := wU_mem (List.mem_append_right _ (List.mem_append_right _ (List.mem_append_right _ (List.mem_append_right _ (List.mem_append_left _ (List.mem_of_getElem? (l := tables_1_4) (i := 113) (by decide +kernel))))))) (by decide +kernel)
theorem wc_f11_ahead : Cond.code yX11_ahead cX11_ahead 5 (some .int) ∈ wU := wU_mem (List.mem_append_right _ (List.mem_append_right _ (List.mem_append_right _ (List.mem_append_right _ (List.mem_append_left _ (List.mem_of_getElem? (l := tables_1_4) (i := 115) (by decide +kernel))))))) (by decide +kernel)
theorem wse_f11_ahead : Cond.selects RX11 yX11_ahead yX11_ahead ∈ wU := wU_mem (List.mem_append_right _ (List.mem_append_right _ (List.mem_append_right _ (List.mem_append_right _ (List.mem_append_left _ (List.mem_of_getElem? (l := tables_1_4) (i := 114) (by decide +kernel))))))) (by decide +kernel)
theorem yw_f11_ahead : Yv yX11_ahead RX11 11 cX11_ahead 5 (some .int) 3 := ⟨wi_f11_ahead, wse_f11_ahead, in_X11, wc_f11_ahead, by decide +kernel, Nat.le_of_ble_eq_true rfl, _, rfl, rfl⟩
theorem wl_88 : Cond.methodLink RL 88 yX11_ahead ∈ wU := wU_mem (List.mem_append_right _ (List.mem_append_right _ (List.mem_append_right _ (List.mem_append_right _ (List.mem_append_left _ (List.mem_of_getElem? (l := tables_1_4) (i := 112) (by decide +kernel))))))) (by decide +kernel)
theorem wi_f12_ahead : Cond.instanceMethod yX12_ahead ∈ wU := wU_mem (List.mem_append_right _ (List.mem_append_right _ (List.mem_append_right _ (List.mem_append_right _ (List.mem_append_right _ (List.mem_append_right _ (List.mem_append_right _ (List.mem_append_right _ (List.mem_append_left _ (List.mem_of_getElem? (l := tables_1_8) (i := 81) (by decide +kernel))))))))))) (by decide +kernel)
theorem wc_f12_ahead : Cond.code yX12_ahead cX12_ahead 4 (some .int) ∈ wU := wU_mem (List.mem_append_right _ (List.mem_append_right _ (List.mem_append_right _ (List.mem_append_right _ (List.mem_append_right _ (List.mem_append_right _ (List.mem_append_right _ (List.mem_append_right _ (List.mem_append_left _ (List.mem_of_getElem? (l := tables_1_8) (i := 83) (by decide +kernel))))))))))) (by decide +kernel)
theorem wse_f12_ahead : Cond.selects RX12 yX12_ahead yX12_ahead ∈ wU := wU_mem (List.mem_append_right _ (List.mem_append_right _ (List.mem_append_right _ (List.mem_append_right _ (List.mem_append_right _ (List.mem_append_right _ (List.mem_append_right _ (List.mem_append_right _ (List.mem_append_left _ (List.mem_of_getElem? (l := tables_1_8) (i := 82) (by decide +kernel))))))))))) (by decide +kernel)
theorem yw_f12_ahead : Yv yX12_ahead RX12 12 cX12_ahead 4 (some .int) 3 := ⟨wi_f12_ahead, wse_f12_ahead, in_X12, wc_f12_ahead, by decide +kernel, Nat.le_of_ble_eq_true rfl, _, rfl, rfl⟩
theorem wl_92 : Cond.methodLink RL 92 yX12_ahead ∈ wU := wU_mem (List.mem_append_right _ (List.mem_append_right _ (List.mem_append_right _ (List.mem_append_right _ (List.mem_append_right _ (List.mem_append_right _ (List.mem_append_right _ (List.mem_append_right _ (List.mem_append_left _ (List.mem_of_getElem? (l := tables_1_8) (i := 80) (by decide +kernel))))))))))) (by decide +kernel)
theorem case_ahead (C : Cl x) (hi : i + 6 ≤ lxL x) (hcs : cells ≤ room_1.cells ∧ slots ≤ room_1.slots) (R : RR S t hc hm) (Kk : ∀ S t hc' hm', RR S t hc' hm' → LG x 1806 (Vs x i) [] hc' hm' f cells slots) : LG x 834 (Vs x i) [] hc hm f cells slots := by
  obtain ⟨S', t', r, c', m', e1, e2, R'⟩ := r_ahead R (lxX x (i + 1)) (lxX x (i + 2)) (lxX x (i + 3))
  refine l_aload C dL_law_834 rfl (q := 3) rfl ?_
  refine l_arg (j := 1) (n := 1) C hi (by decide) rfl dL_law_835 dL_law_836 dL_law_838 dL_law_839 dL_law_840 ?_
  refine l_arg (j := 2) (n := 2) C hi (by decide) rfl dL_law_841 dL_law_842 dL_law_844 dL_law_845 dL_law_846 ?_
  refine l_arg (j := 3) (n := 3) C hi (by decide) rfl dL_law_847 dL_law_848 dL_law_850 dL_law_851 dL_law_852 ?_
  refine l_callC (As := [.int (lxX x (i + 1)), .int (lxX x (i + 2)), .int (lxX x (i + 3))]) (n := 3) C dL_law_853 wl_88 yw_f11_ahead ⟨rfl, rfl⟩ ⟨Nat.le_of_ble_eq_true rfl, Nat.le_of_ble_eq_true rfl⟩ hcs rfl rfl (fun _ => rfl) (Nat.le_of_ble_eq_true rfl) rfl (ok_f11_ahead (K := fun z => z = (r, c')) _ _ _ hc ⟨_, e1, rfl⟩) (fun _ _ ad hp => pw_int ad hp) (fun r1 h1 hp1 => ?_)
  obtain ⟨v1, rfl, hv1⟩ := hp1
  obtain ⟨rfl, rfl⟩ := Prod.mk.inj hv1
  refine l_st (st' := [.int _]) rfl ?_
  refine l_aload C dL_law_856 rfl (q := 2) rfl ?_
  refine l_arg (j := 1) (n := 1) C hi (by decide) rfl dL_law_857 dL_law_858 dL_law_860 dL_law_861 dL_law_862 ?_
  refine l_arg (j := 2) (n := 2) C hi (by decide) rfl dL_law_863 dL_law_864 dL_law_866 dL_law_867 dL_law_868 ?_
  refine l_arg (j := 3) (n := 3) C hi (by decide) rfl dL_law_869 dL_law_870 dL_law_872 dL_law_873 dL_law_874 ?_
  refine l_callM (As := [.int (lxX x (i + 1)), .int (lxX x (i + 2)), .int (lxX x (i + 3))]) (n := 3) C dL_law_875 wl_92 yw_f12_ahead ⟨rfl, rfl⟩ ⟨Nat.le_of_ble_eq_true rfl, Nat.le_of_ble_eq_true rfl⟩ hcs rfl rfl (fun _ => rfl) (Nat.le_of_ble_eq_true rfl) rfl (ok_f12_ahead (K := fun z => z = (_, m')) _ _ _ hm ⟨_, e2, rfl⟩) (fun _ _ ad hp => pw_int ad hp) (fun r1 h1 hp1 => ?_)
  obtain ⟨v2, rfl, hv2⟩ := hp1
  obtain ⟨rfl, rfl⟩ := Prod.mk.inj hv2
  refine l_st (st' := [.int _, .int _]) rfl ?_
  refine l_eq (tgt := 1806) C dL_law_878 (by decide) rfl ?_
  exact Kk _ _ _ _ R'
theorem wi_f11_alike : Cond.instanceMethod yX11_alike ∈ wU := wU_mem (List.mem_append_right _ (List.mem_append_right _ (List.mem_append_right _ (List.mem_append_right _ (List.mem_append_left _ (List.mem_of_getElem? (l := tables_1_4) (i := 127) (by decide +kernel))))))) (by decide +kernel)
theorem wc_f11_alike : Cond.code yX11_alike cX11_alike 4 (some .int) ∈ wU := wU_mem (List.mem_append_right _ (List.mem_append_right _ (List.mem_append_right _ (List.mem_append_right _ (List.mem_append_left _ (List.mem_of_getElem? (l := tables_1_4) (i := 129) (by decide +kernel))))))) (by decide +kernel)
theorem wse_f11_alike : Cond.selects RX11 yX11_alike yX11_alike ∈ wU := wU_mem (List.mem_append_right _ (List.mem_append_right _ (List.mem_append_right _ (List.mem_append_right _ (List.mem_append_left _ (List.mem_of_getElem? (l := tables_1_4) (i := 128) (by decide +kernel))))))) (by decide +kernel)
theorem yw_f11_alike : Yv yX11_alike RX11 11 cX11_alike 4 (some .int) 3 := ⟨wi_f11_alike, wse_f11_alike, in_X11, wc_f11_alike, by decide +kernel, Nat.le_of_ble_eq_true rfl, _, rfl, rfl⟩
theorem wl_93 : Cond.methodLink RL 93 yX11_alike ∈ wU := wU_mem (List.mem_append_right _ (List.mem_append_right _ (List.mem_append_right _ (List.mem_append_right _ (List.mem_append_left _ (List.mem_of_getElem? (l := tables_1_4) (i := 126) (by decide +kernel))))))) (by decide +kernel)
theorem wi_f12_alike : Cond.instanceMethod yX12_alike ∈ wU := wU_mem (List.mem_append_right _ (List.mem_append_right _ (List.mem_append_right _ (List.mem_append_right _ (List.mem_append_right _ (List.mem_append_right _ (List.mem_append_right _ (List.mem_append_right _ (List.mem_append_left _ (List.mem_of_getElem? (l := tables_1_8) (i := 93) (by decide +kernel))))))))))) (by decide +kernel)
theorem wc_f12_alike : Cond.code yX12_alike cX12_alike 4 (some .int) ∈ wU := wU_mem (List.mem_append_right _ (List.mem_append_right _ (List.mem_append_right _ (List.mem_append_right _ (List.mem_append_right _ (List.mem_append_right _ (List.mem_append_right _ (List.mem_append_right _ (List.mem_append_left _ (List.mem_of_getElem? (l := tables_1_8) (i := 95) (by decide +kernel))))))))))) (by decide +kernel)
theorem wse_f12_alike : Cond.selects RX12 yX12_alike yX12_alike ∈ wU := wU_mem (List.mem_append_right _ (List.mem_append_right _ (List.mem_append_right _ (List.mem_append_right _ (List.mem_append_right _ (List.mem_append_right _ (List.mem_append_right _ (List.mem_append_right _ (List.mem_append_left _ (List.mem_of_getElem? (l := tables_1_8) (i := 94) (by decide +kernel))))))))))) (by decide +kernel)
theorem yw_f12_alike : Yv yX12_alike RX12 12 cX12_alike 4 (some .int) 3 := ⟨wi_f12_alike, wse_f12_alike, in_X12, wc_f12_alike, by decide +kernel, Nat.le_of_ble_eq_true rfl, _, rfl, rfl⟩
theorem wl_96 : Cond.methodLink RL 96 yX12_alike ∈ wU := wU_mem (List.mem_append_right _ (List.mem_append_right _ (List.mem_append_right _ (List.mem_append_right _ (List.mem_append_right _ (List.mem_append_right _ (List.mem_append_right _ (List.mem_append_right _ (List.mem_append_left _ (List.mem_of_getElem? (l := tables_1_8) (i := 92) (by decide +kernel))))))))))) (by decide +kernel)
theorem case_alike (C : Cl x) (hi : i + 6 ≤ lxL x) (hcs : cells ≤ room_1.cells ∧ slots ≤ room_1.slots) (R : RR S t hc hm) (Kk : ∀ S t hc' hm', RR S t hc' hm' → LG x 1806 (Vs x i) [] hc' hm' f cells slots) : LG x 883 (Vs x i) [] hc hm f cells slots := by
  obtain ⟨S', t', r, c', m', e1, e2, R'⟩ := r_alike R (lxX x (i + 1)) (lxX x (i + 2)) (lxX x (i + 3))
  refine l_aload C dL_law_883 rfl (q := 3) rfl ?_
  refine l_arg (j := 1) (n := 1) C hi (by decide) rfl dL_law_884 dL_law_885 dL_law_887 dL_law_888 dL_law_889 ?_
  refine l_arg (j := 2) (n := 2) C hi (by decide) rfl dL_law_890 dL_law_891 dL_law_893 dL_law_894 dL_law_895 ?_
  refine l_arg (j := 3) (n := 3) C hi (by decide) rfl dL_law_896 dL_law_897 dL_law_899 dL_law_900 dL_law_901 ?_
  refine l_callC (As := [.int (lxX x (i + 1)), .int (lxX x (i + 2)), .int (lxX x (i + 3))]) (n := 3) C dL_law_902 wl_93 yw_f11_alike ⟨rfl, rfl⟩ ⟨Nat.le_of_ble_eq_true rfl, Nat.le_of_ble_eq_true rfl⟩ hcs rfl rfl (fun _ => rfl) (Nat.le_of_ble_eq_true rfl) rfl (ok_f11_alike (K := fun z => z = (r, c')) _ _ _ hc ⟨_, e1, rfl⟩) (fun _ _ ad hp => pw_int ad hp) (fun r1 h1 hp1 => ?_)
  obtain ⟨v1, rfl, hv1⟩ := hp1
  obtain ⟨rfl, rfl⟩ := Prod.mk.inj hv1
  refine l_st (st' := [.int _]) rfl ?_
  refine l_aload C dL_law_905 rfl (q := 2) rfl ?_
  refine l_arg (j := 1) (n := 1) C hi (by decide) rfl dL_law_906 dL_law_907 dL_law_909 dL_law_910 dL_law_911 ?_
  refine l_arg (j := 2) (n := 2) C hi (by decide) rfl dL_law_912 dL_law_913 dL_law_915 dL_law_916 dL_law_917 ?_
  refine l_arg (j := 3) (n := 3) C hi (by decide) rfl dL_law_918 dL_law_919 dL_law_921 dL_law_922 dL_law_923 ?_
  refine l_callM (As := [.int (lxX x (i + 1)), .int (lxX x (i + 2)), .int (lxX x (i + 3))]) (n := 3) C dL_law_924 wl_96 yw_f12_alike ⟨rfl, rfl⟩ ⟨Nat.le_of_ble_eq_true rfl, Nat.le_of_ble_eq_true rfl⟩ hcs rfl rfl (fun _ => rfl) (Nat.le_of_ble_eq_true rfl) rfl (ok_f12_alike (K := fun z => z = (_, m')) _ _ _ hm ⟨_, e2, rfl⟩) (fun _ _ ad hp => pw_int ad hp) (fun r1 h1 hp1 => ?_)
  obtain ⟨v2, rfl, hv2⟩ := hp1
  obtain ⟨rfl, rfl⟩ := Prod.mk.inj hv2
  refine l_st (st' := [.int _, .int _]) rfl ?_
  refine l_eq (tgt := 1806) C dL_law_927 (by decide) rfl ?_
  exact Kk _ _ _ _ R'
theorem wi_f11_like : Cond.instanceMethod yX11_like ∈ wU := wU_mem (List.mem_append_right _ (List.mem_append_right _ (List.mem_append_right _ (List.mem_append_right _ (List.mem_append_left _ (List.mem_of_getElem? (l := tables_1_4) (i := 148) (by decide +kernel))))))) (by decide +kernel)
theorem wc_f11_like : Cond.code yX11_like cX11_like 6 (some .int) ∈ wU := wU_mem (List.mem_append_right _ (List.mem_append_right _ (List.mem_append_right _ (List.mem_append_right _ (List.mem_append_left _ (List.mem_of_getElem? (l := tables_1_4) (i := 150) (by decide +kernel))))))) (by decide +kernel)
theorem wse_f11_like : Cond.selects RX11 yX11_like yX11_like ∈ wU := wU_mem (List.mem_append_right _ (List.mem_append_right _ (List.mem_append_right _ (List.mem_append_right _ (List.mem_append_left _ (List.mem_of_getElem? (l := tables_1_4) (i := 149) (by decide +kernel))))))) (by decide +kernel)
theorem yw_f11_like : Yv yX11_like RX11 11 cX11_like 6 (some .int) 3 := ⟨wi_f11_like, wse_f11_like, in_X11, wc_f11_like, by decide +kernel, Nat.le_of_ble_eq_true rfl, _, rfl, rfl⟩
theorem wl_97 : Cond.methodLink RL 97 yX11_like ∈ wU := wU_mem (List.mem_append_right _ (List.mem_append_right _ (List.mem_append_right _ (List.mem_append_right _ (List.mem_append_left _ (List.mem_of_getElem? (l := tables_1_4) (i := 147) (by decide +kernel))))))) (by decide +kernel)
theorem wi_f12_like : Cond.instanceMethod yX12_like ∈ wU := wU_mem (List.mem_append_right _ (List.mem_append_right _ (List.mem_append_right _ (List.mem_append_right _ (List.mem_append_right _ (List.mem_append_right _ (List.mem_append_right _ (List.mem_append_right _ (List.mem_append_left _ (List.mem_of_getElem? (l := tables_1_8) (i := 101) (by decide +kernel))))))))))) (by decide +kernel)
theorem wc_f12_like : Cond.code yX12_like cX12_like 6 (some .int) ∈ wU := wU_mem (List.mem_append_right _ (List.mem_append_right _ (List.mem_append_right _ (List.mem_append_right _ (List.mem_append_right _ (List.mem_append_right _ (List.mem_append_right _ (List.mem_append_right _ (List.mem_append_left _ (List.mem_of_getElem? (l := tables_1_8) (i := 103) (by decide +kernel))))))))))) (by decide +kernel)
theorem wse_f12_like : Cond.selects RX12 yX12_like yX12_like ∈ wU := wU_mem (List.mem_append_right _ (List.mem_append_right _ (List.mem_append_right _ (List.mem_append_right _ (List.mem_append_right _ (List.mem_append_right _ (List.mem_append_right _ (List.mem_append_right _ (List.mem_append_left _ (List.mem_of_getElem? (l := tables_1_8) (i := 102) (by decide +kernel))))))))))) (by decide +kernel)
theorem yw_f12_like : Yv yX12_like RX12 12 cX12_like 6 (some .int) 3 := ⟨wi_f12_like, wse_f12_like, in_X12, wc_f12_like, by decide +kernel, Nat.le_of_ble_eq_true rfl, _, rfl, rfl⟩
theorem wl_100 : Cond.methodLink RL 100 yX12_like ∈ wU := wU_mem (List.mem_append_right _ (List.mem_append_right _ (List.mem_append_right _ (List.mem_append_right _ (List.mem_append_right _ (List.mem_append_right _ (List.mem_append_right _ (List.mem_append_right _ (List.mem_append_left _ (List.mem_of_getElem? (l := tables_1_8) (i := 100) (by decide +kernel))))))))))) (by decide +kernel)
theorem case_like (C : Cl x) (hi : i + 6 ≤ lxL x) (hcs : cells ≤ room_1.cells ∧ slots ≤ room_1.slots) (R : RR S t hc hm) (Kk : ∀ S t hc' hm', RR S t hc' hm' → LG x 1806 (Vs x i) [] hc' hm' f cells slots) : LG x 932 (Vs x i) [] hc hm f cells slots := by
  obtain ⟨S', t', r, c', m', e1, e2, R'⟩ := r_like R (lxX x (i + 1)) (lxX x (i + 2)) (lxX x (i + 3))
  refine l_aload C dL_law_932 rfl (q := 3) rfl ?_
  refine l_arg (j := 1) (n := 1) C hi (by decide) rfl dL_law_933 dL_law_934 dL_law_936 dL_law_937 dL_law_938 ?_
  refine l_arg (j := 2) (n := 2) C hi (by decide) rfl dL_law_939 dL_law_940 dL_law_942 dL_law_943 dL_law_944 ?_
  refine l_arg (j := 3) (n := 3) C hi (by decide) rfl dL_law_945 dL_law_946 dL_law_948 dL_law_949 dL_law_950 ?_
  refine l_callC (As := [.int (lxX x (i + 1)), .int (lxX x (i + 2)), .int (lxX x (i + 3))]) (n := 3) C dL_law_951 wl_97 yw_f11_like ⟨rfl, rfl⟩ ⟨Nat.le_of_ble_eq_true rfl, Nat.le_of_ble_eq_true rfl⟩ hcs rfl rfl (fun _ => rfl) (Nat.le_of_ble_eq_true rfl) rfl (ok_f11_like (K := fun z => z = (r, c')) _ _ _ hc ⟨_, e1, rfl⟩) (fun _ _ ad hp => pw_int ad hp) (fun r1 h1 hp1 => ?_)
  obtain ⟨v1, rfl, hv1⟩ := hp1
  obtain ⟨rfl, rfl⟩ := Prod.mk.inj hv1
  refine l_st (st' := [.int _]) rfl ?_
  refine l_aload C dL_law_954 rfl (q := 2) rfl ?_
  refine l_arg (j := 1) (n := 1) C hi (by decide) rfl dL_law_955 dL_law_956 dL_law_958 dL_law_959 dL_law_960 ?_
  refine l_arg (j := 2) (n := 2) C hi (by decide) rfl dL_law_961 dL_law_962 dL_law_964 dL_law_965 dL_law_966 ?_
  refine l_arg (j := 3) (n := 3) C hi (by decide) rfl dL_law_967 dL_law_968 dL_law_970 dL_law_971 dL_law_972 ?_
  refine l_callM (As := [.int (lxX x (i + 1)), .int (lxX x (i + 2)), .int (lxX x (i + 3))]) (n := 3) C dL_law_973 wl_100 yw_f12_like ⟨rfl, rfl⟩ ⟨Nat.le_of_ble_eq_true rfl, Nat.le_of_ble_eq_true rfl⟩ hcs rfl rfl (fun _ => rfl) (Nat.le_of_ble_eq_true rfl) rfl (ok_f12_like (K := fun z => z = (_, m')) _ _ _ hm ⟨_, e2, rfl⟩) (fun _ _ ad hp => pw_int ad hp) (fun r1 h1 hp1 => ?_)
  obtain ⟨v2, rfl, hv2⟩ := hp1
  obtain ⟨rfl, rfl⟩ := Prod.mk.inj hv2
  refine l_st (st' := [.int _, .int _]) rfl ?_
  refine l_eq (tgt := 1806) C dL_law_976 (by decide) rfl ?_
  exact Kk _ _ _ _ R'
theorem wi_f11_whose : Cond.instanceMethod yX11_whose ∈ wU := wU_mem (List.mem_append_right _ (List.mem_append_right _ (List.mem_append_right _ (List.mem_append_right _ (List.mem_append_left _ (List.mem_of_getElem? (l := tables_1_4) (i := 152) (by decide +kernel))))))) (by decide +kernel)
theorem wc_f11_whose : Cond.code yX11_whose cX11_whose 1 (some .int) ∈ wU := wU_mem (List.mem_append_right _ (List.mem_append_right _ (List.mem_append_right _ (List.mem_append_right _ (List.mem_append_left _ (List.mem_of_getElem? (l := tables_1_4) (i := 154) (by decide +kernel))))))) (by decide +kernel)
theorem wse_f11_whose : Cond.selects RX11 yX11_whose yX11_whose ∈ wU := wU_mem (List.mem_append_right _ (List.mem_append_right _ (List.mem_append_right _ (List.mem_append_right _ (List.mem_append_left _ (List.mem_of_getElem? (l := tables_1_4) (i := 153) (by decide +kernel))))))) (by decide +kernel)
theorem yw_f11_whose : Yv yX11_whose RX11 11 cX11_whose 1 (some .int) 0 := ⟨wi_f11_whose, wse_f11_whose, in_X11, wc_f11_whose, by decide +kernel, Nat.le_of_ble_eq_true rfl, _, rfl, rfl⟩
theorem wl_101 : Cond.methodLink RL 101 yX11_whose ∈ wU := wU_mem (List.mem_append_right _ (List.mem_append_right _ (List.mem_append_right _ (List.mem_append_right _ (List.mem_append_left _ (List.mem_of_getElem? (l := tables_1_4) (i := 151) (by decide +kernel))))))) (by decide +kernel)
theorem wi_f12_whose : Cond.instanceMethod yX12_whose ∈ wU := wU_mem (List.mem_append_right _ (List.mem_append_right _ (List.mem_append_right _ (List.mem_append_right _ (List.mem_append_right _ (List.mem_append_right _ (List.mem_append_right _ (List.mem_append_right _ (List.mem_append_left _ (List.mem_of_getElem? (l := tables_1_8) (i := 226) (by decide +kernel))))))))))) (by decide +kernel)
theorem wc_f12_whose : Cond.code yX12_whose cX12_whose 3 (some .int) ∈ wU := wU_mem (List.mem_append_right _ (List.mem_append_right _ (List.mem_append_right _ (List.mem_append_right _ (List.mem_append_right _ (List.mem_append_right _ (List.mem_append_right _ (List.mem_append_right _ (List.mem_append_left _ (List.mem_of_getElem? (l := tables_1_8) (i := 228) (by decide +kernel))))))))))) (by decide +kernel)
theorem wse_f12_whose : Cond.selects RX12 yX12_whose yX12_whose ∈ wU := wU_mem (List.mem_append_right _ (List.mem_append_right _ (List.mem_append_right _ (List.mem_append_right _ (List.mem_append_right _ (List.mem_append_right _ (List.mem_append_right _ (List.mem_append_right _ (List.mem_append_left _ (List.mem_of_getElem? (l := tables_1_8) (i := 227) (by decide +kernel))))))))))) (by decide +kernel)
theorem yw_f12_whose : Yv yX12_whose RX12 12 cX12_whose 3 (some .int) 0 := ⟨wi_f12_whose, wse_f12_whose, in_X12, wc_f12_whose, by decide +kernel, Nat.le_of_ble_eq_true rfl, _, rfl, rfl⟩
theorem wl_104 : Cond.methodLink RL 104 yX12_whose ∈ wU := wU_mem (List.mem_append_right _ (List.mem_append_right _ (List.mem_append_right _ (List.mem_append_right _ (List.mem_append_right _ (List.mem_append_right _ (List.mem_append_right _ (List.mem_append_right _ (List.mem_append_left _ (List.mem_of_getElem? (l := tables_1_8) (i := 225) (by decide +kernel))))))))))) (by decide +kernel)
theorem case_whose (C : Cl x) (hi : i + 6 ≤ lxL x) (hcs : cells ≤ room_1.cells ∧ slots ≤ room_1.slots) (R : RR S t hc hm) (Kk : ∀ S t hc' hm', RR S t hc' hm' → LG x 1806 (Vs x i) [] hc' hm' f cells slots) : LG x 981 (Vs x i) [] hc hm f cells slots := by
  obtain ⟨S', t', r, c', m', e1, e2, R'⟩ := r_whose R
  refine l_aload C dL_law_981 rfl (q := 3) rfl ?_
  refine l_callC (As := []) (n := 0) C dL_law_982 wl_101 yw_f11_whose ⟨rfl, rfl⟩ ⟨Nat.le_of_ble_eq_true rfl, Nat.le_of_ble_eq_true rfl⟩ hcs rfl rfl (fun _ => rfl) (Nat.le_of_ble_eq_true rfl) rfl (ok_f11_whose (K := fun z => z = (r, c'))  hc ⟨_, e1, rfl⟩) (fun _ _ ad hp => pw_int ad hp) (fun r1 h1 hp1 => ?_)
  obtain ⟨v1, rfl, hv1⟩ := hp1
  obtain ⟨rfl, rfl⟩ := Prod.mk.inj hv1
  refine l_st (st' := [.int _]) rfl ?_
  refine l_aload C dL_law_985 rfl (q := 2) rfl ?_
  refine l_callM (As := []) (n := 0) C dL_law_986 wl_104 yw_f12_whose ⟨rfl, rfl⟩ ⟨Nat.le_of_ble_eq_true rfl, Nat.le_of_ble_eq_true rfl⟩ hcs rfl rfl (fun _ => rfl) (Nat.le_of_ble_eq_true rfl) rfl (ok_f12_whose (K := fun z => z = (_, m'))  hm ⟨_, e2, rfl⟩) (fun _ _ ad hp => pw_int ad hp) (fun r1 h1 hp1 => ?_)
  obtain ⟨v2, rfl, hv2⟩ := hp1
  obtain ⟨rfl, rfl⟩ := Prod.mk.inj hv2
  refine l_st (st' := [.int _, .int _]) rfl ?_
  refine l_eq (tgt := 1806) C dL_law_989 (by decide) rfl ?_
  exact Kk _ _ _ _ R'
theorem wi_f11_fill : Cond.instanceMethod yX11_fill ∈ wU := wU_mem (List.mem_append_right _ (List.mem_append_right _ (List.mem_append_right _ (List.mem_append_right _ (List.mem_append_left _ (List.mem_of_getElem? (l := tables_1_4) (i := 173) (by decide +kernel))))))) (by decide +kernel)
theorem wc_f11_fill : Cond.code yX11_fill cX11_fill 7 (some .int) ∈ wU := wU_mem (List.mem_append_right _ (List.mem_append_right _ (List.mem_append_right _ (List.mem_append_right _ (List.mem_append_left _ (List.mem_of_getElem? (l := tables_1_4) (i := 175) (by decide +kernel))))))) (by decide +kernel)
theorem wse_f11_fill : Cond.selects RX11 yX11_fill yX11_fill ∈ wU := wU_mem (List.mem_append_right _ (List.mem_append_right _ (List.mem_append_right _ (List.mem_append_right _ (List.mem_append_left _ (List.mem_of_getElem? (l := tables_1_4) (i := 174) (by decide +kernel))))))) (by decide +kernel)
theorem yw_f11_fill : Yv yX11_fill RX11 11 cX11_fill 7 (some .int) 2 := ⟨wi_f11_fill, wse_f11_fill, in_X11, wc_f11_fill, by decide +kernel, Nat.le_of_ble_eq_true rfl, _, rfl, rfl⟩
theorem wl_105 : Cond.methodLink RL 105 yX11_fill ∈ wU := wU_mem (List.mem_append_right _ (List.mem_append_right _ (List.mem_append_right _ (List.mem_append_right _ (List.mem_append_left _ (List.mem_of_getElem? (l := tables_1_4) (i := 172) (by decide +kernel))))))) (by decide +kernel)
theorem wi_f12_fill : Cond.instanceMethod yX12_fill ∈ wU := wU_mem (List.mem_append_right _ (List.mem_append_right _ (List.mem_append_right _ (List.mem_append_right _ (List.mem_append_right _ (List.mem_append_right _ (List.mem_append_right _ (List.mem_append_right _ (List.mem_append_left _ (List.mem_of_getElem? (l := tables_1_8) (i := 105) (by decide +kernel))))))))))) (by decide +kernel)
theorem wc_f12_fill : Cond.code yX12_fill cX12_fill 10 (some .int) ∈ wU := wU_mem (List.mem_append_right _ (List.mem_append_right _ (List.mem_append_right _ (List.mem_append_right _ (List.mem_append_right _ (List.mem_append_right _ (List.mem_append_right _ (List.mem_append_right _ (List.mem_append_left _ (List.mem_of_getElem? (l := tables_1_8) (i := 107) (by decide +kernel))))))))))) (by decide +kernel)
theorem wse_f12_fill : Cond.selects RX12 yX12_fill yX12_fill ∈ wU := wU_mem (List.mem_append_right _ (List.mem_append_right _ (List.mem_append_right _ (List.mem_append_right _ (List.mem_append_right _ (List.mem_append_right _ (List.mem_append_right _ (List.mem_append_right _ (List.mem_append_left _ (List.mem_of_getElem? (l := tables_1_8) (i := 106) (by decide +kernel))))))))))) (by decide +kernel)
theorem yw_f12_fill : Yv yX12_fill RX12 12 cX12_fill 10 (some .int) 2 := ⟨wi_f12_fill, wse_f12_fill, in_X12, wc_f12_fill, by decide +kernel, Nat.le_of_ble_eq_true rfl, _, rfl, rfl⟩
theorem wl_108 : Cond.methodLink RL 108 yX12_fill ∈ wU := wU_mem (List.mem_append_right _ (List.mem_append_right _ (List.mem_append_right _ (List.mem_append_right _ (List.mem_append_right _ (List.mem_append_right _ (List.mem_append_right _ (List.mem_append_right _ (List.mem_append_left _ (List.mem_of_getElem? (l := tables_1_8) (i := 104) (by decide +kernel))))))))))) (by decide +kernel)
theorem case_fill (C : Cl x) (hi : i + 6 ≤ lxL x) (hcs : cells ≤ room_1.cells ∧ slots ≤ room_1.slots) (R : RR S t hc hm) (Kk : ∀ S t hc' hm', RR S t hc' hm' → LG x 1806 (Vs x i) [] hc' hm' f cells slots) : LG x 994 (Vs x i) [] hc hm f cells slots := by
  obtain ⟨S', t', r, c', m', e1, e2, R'⟩ := r_fill R (lxX x (i + 1)) (lxX x (i + 2))
  refine l_aload C dL_law_994 rfl (q := 3) rfl ?_
  refine l_arg (j := 1) (n := 1) C hi (by decide) rfl dL_law_995 dL_law_996 dL_law_998 dL_law_999 dL_law_1000 ?_
  refine l_arg (j := 2) (n := 2) C hi (by decide) rfl dL_law_1001 dL_law_1002 dL_law_1004 dL_law_1005 dL_law_1006 ?_
  refine l_callC (As := [.int (lxX x (i + 1)), .int (lxX x (i + 2))]) (n := 2) C dL_law_1007 wl_105 yw_f11_fill ⟨rfl, rfl⟩ ⟨Nat.le_of_ble_eq_true rfl, Nat.le_of_ble_eq_true rfl⟩ hcs rfl rfl (fun _ => rfl) (Nat.le_of_ble_eq_true rfl) rfl (ok_f11_fill (K := fun z => z = (r, c')) _ _ hc ⟨_, e1, rfl⟩) (fun _ _ ad hp => pw_int ad hp) (fun r1 h1 hp1 => ?_)
  obtain ⟨v1, rfl, hv1⟩ := hp1
  obtain ⟨rfl, rfl⟩ := Prod.mk.inj hv1
  refine l_st (st' := [.int _]) rfl ?_
  refine l_aload C dL_law_1010 rfl (q := 2) rfl ?_
  refine l_arg (j := 1) (n := 1) C hi (by decide) rfl dL_law_1011 dL_law_1012 dL_law_1014 dL_law_1015 dL_law_1016 ?_
  refine l_arg (j := 2) (n := 2) C hi (by decide) rfl dL_law_1017 dL_law_1018 dL_law_1020 dL_law_1021 dL_law_1022 ?_
  refine l_callM (As := [.int (lxX x (i + 1)), .int (lxX x (i + 2))]) (n := 2) C dL_law_1023 wl_108 yw_f12_fill ⟨rfl, rfl⟩ ⟨Nat.le_of_ble_eq_true rfl, Nat.le_of_ble_eq_true rfl⟩ hcs rfl rfl (fun _ => rfl) (Nat.le_of_ble_eq_true rfl) rfl (ok_f12_fill (K := fun z => z = (_, m')) _ _ hm ⟨_, e2, rfl⟩) (fun _ _ ad hp => pw_int ad hp) (fun r1 h1 hp1 => ?_)
  obtain ⟨v2, rfl, hv2⟩ := hp1
  obtain ⟨rfl, rfl⟩ := Prod.mk.inj hv2
  refine l_st (st' := [.int _, .int _]) rfl ?_
  refine l_eq (tgt := 1806) C dL_law_1026 (by decide) rfl ?_
  exact Kk _ _ _ _ R'
theorem wi_f11_join : Cond.instanceMethod yX11_join ∈ wU := wU_mem (List.mem_append_right _ (List.mem_append_right _ (List.mem_append_right _ (List.mem_append_right _ (List.mem_append_left _ (List.mem_of_getElem? (l := tables_1_4) (i := 182) (by decide +kernel))))))) (by decide +kernel)
theorem wc_f11_join : Cond.code yX11_join cX11_join 4 (some .int) ∈ wU := wU_mem (List.mem_append_right _ (List.mem_append_right _ (List.mem_append_right _ (List.mem_append_right _ (List.mem_append_left _ (List.mem_of_getElem? (l := tables_1_4) (i := 184) (by decide +kernel))))))) (by decide +kernel)
theorem wse_f11_join : Cond.selects RX11 yX11_join yX11_join ∈ wU := wU_mem (List.mem_append_right _ (List.mem_append_right _ (List.mem_append_right _ (List.mem_append_right _ (List.mem_append_left _ (List.mem_of_getElem? (l := tables_1_4) (i := 183) (by decide +kernel))))))) (by decide +kernel)
theorem yw_f11_join : Yv yX11_join RX11 11 cX11_join 4 (some .int) 2 := ⟨wi_f11_join, wse_f11_join, in_X11, wc_f11_join, by decide +kernel, Nat.le_of_ble_eq_true rfl, _, rfl, rfl⟩
theorem wl_109 : Cond.methodLink RL 109 yX11_join ∈ wU := wU_mem (List.mem_append_right _ (List.mem_append_right _ (List.mem_append_right _ (List.mem_append_right _ (List.mem_append_left _ (List.mem_of_getElem? (l := tables_1_4) (i := 181) (by decide +kernel))))))) (by decide +kernel)
theorem wi_f12_join : Cond.instanceMethod yX12_join ∈ wU := wU_mem (List.mem_append_right _ (List.mem_append_right _ (List.mem_append_right _ (List.mem_append_right _ (List.mem_append_right _ (List.mem_append_right _ (List.mem_append_right _ (List.mem_append_right _ (List.mem_append_left _ (List.mem_of_getElem? (l := tables_1_8) (i := 109) (by decide +kernel))))))))))) (by decide +kernel)
theorem wc_f12_join : Cond.code yX12_join cX12_join 8 (some .int) ∈ wU := wU_mem (List.mem_append_right _ (List.mem_append_right _ (List.mem_append_right _ (List.mem_append_right _ (List.mem_append_right _ (List.mem_append_right _ (List.mem_append_right _ (List.mem_append_right _ (List.mem_append_left _ (List.mem_of_getElem? (l := tables_1_8) (i := 111) (by decide +kernel))))))))))) (by decide +kernel)
theorem wse_f12_join : Cond.selects RX12 yX12_join yX12_join ∈ wU := wU_mem (List.mem_append_right _ (List.mem_append_right _ (List.mem_append_right _ (List.mem_append_right _ (List.mem_append_right _ (List.mem_append_right _ (List.mem_append_right _ (List.mem_append_right _ (List.mem_append_left _ (List.mem_of_getElem? (l := tables_1_8) (i := 110) (by decide +kernel))))))))))) (by decide +kernel)
theorem yw_f12_join : Yv yX12_join RX12 12 cX12_join 8 (some .int) 2 := ⟨wi_f12_join, wse_f12_join, in_X12, wc_f12_join, by decide +kernel, Nat.le_of_ble_eq_true rfl, _, rfl, rfl⟩
theorem wl_112 : Cond.methodLink RL 112 yX12_join ∈ wU := wU_mem (List.mem_append_right _ (List.mem_append_right _ (List.mem_append_right _ (List.mem_append_right _ (List.mem_append_right _ (List.mem_append_right _ (List.mem_append_right _ (List.mem_append_right _ (List.mem_append_left _ (List.mem_of_getElem? (l := tables_1_8) (i := 108) (by decide +kernel))))))))))) (by decide +kernel)
theorem case_join (C : Cl x) (hi : i + 6 ≤ lxL x) (hcs : cells ≤ room_1.cells ∧ slots ≤ room_1.slots) (R : RR S t hc hm) (Kk : ∀ S t hc' hm', RR S t hc' hm' → LG x 1806 (Vs x i) [] hc' hm' f cells slots) : LG x 1031 (Vs x i) [] hc hm f cells slots := by
  obtain ⟨S', t', r, c', m', e1, e2, R'⟩ := r_join R (lxX x (i + 1)) (lxX x (i + 2))
  refine l_aload C dL_law_1031 rfl (q := 3) rfl ?_
  refine l_arg (j := 1) (n := 1) C hi (by decide) rfl dL_law_1032 dL_law_1033 dL_law_1035 dL_law_1036 dL_law_1037 ?_
  refine l_arg (j := 2) (n := 2) C hi (by decide) rfl dL_law_1038 dL_law_1039 dL_law_1041 dL_law_1042 dL_law_1043 ?_
  refine l_callC (As := [.int (lxX x (i + 1)), .int (lxX x (i + 2))]) (n := 2) C dL_law_1044 wl_109 yw_f11_join ⟨rfl, rfl⟩ ⟨Nat.le_of_ble_eq_true rfl, Nat.le_of_ble_eq_true rfl⟩ hcs rfl rfl (fun _ => rfl) (Nat.le_of_ble_eq_true rfl) rfl (ok_f11_join (K := fun z => z = (r, c')) _ _ hc ⟨_, e1, rfl⟩) (fun _ _ ad hp => pw_int ad hp) (fun r1 h1 hp1 => ?_)
  obtain ⟨v1, rfl, hv1⟩ := hp1
  obtain ⟨rfl, rfl⟩ := Prod.mk.inj hv1
  refine l_st (st' := [.int _]) rfl ?_
  refine l_aload C dL_law_1047 rfl (q := 2) rfl ?_
  refine l_arg (j := 1) (n := 1) C hi (by decide) rfl dL_law_1048 dL_law_1049 dL_law_1051 dL_law_1052 dL_law_1053 ?_
  refine l_arg (j := 2) (n := 2) C hi (by decide) rfl dL_law_1054 dL_law_1055 dL_law_1057 dL_law_1058 dL_law_1059 ?_
  refine l_callM (As := [.int (lxX x (i + 1)), .int (lxX x (i + 2))]) (n := 2) C dL_law_1060 wl_112 yw_f12_join ⟨rfl, rfl⟩ ⟨Nat.le_of_ble_eq_true rfl, Nat.le_of_ble_eq_true rfl⟩ hcs rfl rfl (fun _ => rfl) (Nat.le_of_ble_eq_true rfl) rfl (ok_f12_join (K := fun z => z = (_, m')) _ _ hm ⟨_, e2, rfl⟩) (fun _ _ ad hp => pw_int ad hp) (fun r1 h1 hp1 => ?_)
  obtain ⟨v2, rfl, hv2⟩ := hp1
  obtain ⟨rfl, rfl⟩ := Prod.mk.inj hv2
  refine l_st (st' := [.int _, .int _]) rfl ?_
  refine l_eq (tgt := 1806) C dL_law_1063 (by decide) rfl ?_
  exact Kk _ _ _ _ R'
theorem wi_f11_duet : Cond.instanceMethod yX11_duet ∈ wU := wU_mem (List.mem_append_right _ (List.mem_append_right _ (List.mem_append_right _ (List.mem_append_right _ (List.mem_append_left _ (List.mem_of_getElem? (l := tables_1_4) (i := 214) (by decide +kernel))))))) (by decide +kernel)
theorem wc_f11_duet : Cond.code yX11_duet cX11_duet 3 (some .int) ∈ wU := wU_mem (List.mem_append_right _ (List.mem_append_right _ (List.mem_append_right _ (List.mem_append_right _ (List.mem_append_left _ (List.mem_of_getElem? (l := tables_1_4) (i := 216) (by decide +kernel))))))) (by decide +kernel)
theorem wse_f11_duet : Cond.selects RX11 yX11_duet yX11_duet ∈ wU := wU_mem (List.mem_append_right _ (List.mem_append_right _ (List.mem_append_right _ (List.mem_append_right _ (List.mem_append_left _ (List.mem_of_getElem? (l := tables_1_4) (i := 215) (by decide +kernel))))))) (by decide +kernel)
theorem yw_f11_duet : Yv yX11_duet RX11 11 cX11_duet 3 (some .int) 2 := ⟨wi_f11_duet, wse_f11_duet, in_X11, wc_f11_duet, by decide +kernel, Nat.le_of_ble_eq_true rfl, _, rfl, rfl⟩
theorem wl_113 : Cond.methodLink RL 113 yX11_duet ∈ wU := wU_mem (List.mem_append_right _ (List.mem_append_right _ (List.mem_append_right _ (List.mem_append_right _ (List.mem_append_left _ (List.mem_of_getElem? (l := tables_1_4) (i := 213) (by decide +kernel))))))) (by decide +kernel)
theorem wi_f12_duet : Cond.instanceMethod yX12_duet ∈ wU := wU_mem (List.mem_append_right _ (List.mem_append_right _ (List.mem_append_right _ (List.mem_append_right _ (List.mem_append_right _ (List.mem_append_right _ (List.mem_append_right _ (List.mem_append_right _ (List.mem_append_left _ (List.mem_of_getElem? (l := tables_1_8) (i := 124) (by decide +kernel))))))))))) (by decide +kernel)
theorem wc_f12_duet : Cond.code yX12_duet cX12_duet 5 (some .int) ∈ wU := wU_mem (List.mem_append_right _ (List.mem_append_right _ (List.mem_append_right _ (List.mem_append_right _ (List.mem_append_right _ (List.mem_append_right _ (List.mem_append_right _ (List.mem_append_right _ (List.mem_append_left _ (List.mem_of_getElem? (l := tables_1_8) (i := 126) (by decide +kernel))))))))))) (by decide +kernel)
theorem wse_f12_duet : Cond.selects RX12 yX12_duet yX12_duet ∈ wU := wU_mem (List.mem_append_right _ (List.mem_append_right _ (List.mem_append_right _ (List.mem_append_right _ (List.mem_append_right _ (List.mem_append_right _ (List.mem_append_right _ (List.mem_append_right _ (List.mem_append_left _ (List.mem_of_getElem? (l := tables_1_8) (i := 125) (by decide +kernel))))))))))) (by decide +kernel)
theorem yw_f12_duet : Yv yX12_duet RX12 12 cX12_duet 5 (some .int) 2 := ⟨wi_f12_duet, wse_f12_duet, in_X12, wc_f12_duet, by decide +kernel, Nat.le_of_ble_eq_true rfl, _, rfl, rfl⟩
theorem wl_116 : Cond.methodLink RL 116 yX12_duet ∈ wU := wU_mem (List.mem_append_right _ (List.mem_append_right _ (List.mem_append_right _ (List.mem_append_right _ (List.mem_append_right _ (List.mem_append_right _ (List.mem_append_right _ (List.mem_append_right _ (List.mem_append_left _ (List.mem_of_getElem? (l := tables_1_8) (i := 123) (by decide +kernel))))))))))) (by decide +kernel)
theorem case_duet (C : Cl x) (hi : i + 6 ≤ lxL x) (hcs : cells ≤ room_1.cells ∧ slots ≤ room_1.slots) (R : RR S t hc hm) (Kk : ∀ S t hc' hm', RR S t hc' hm' → LG x 1806 (Vs x i) [] hc' hm' f cells slots) : LG x 1068 (Vs x i) [] hc hm f cells slots := by
  obtain ⟨S', t', r, c', m', e1, e2, R'⟩ := r_duet R (lxX x (i + 1)) (lxX x (i + 2))
  refine l_aload C dL_law_1068 rfl (q := 3) rfl ?_
  refine l_arg (j := 1) (n := 1) C hi (by decide) rfl dL_law_1069 dL_law_1070 dL_law_1072 dL_law_1073 dL_law_1074 ?_
  refine l_arg (j := 2) (n := 2) C hi (by decide) rfl dL_law_1075 dL_law_1076 dL_law_1078 dL_law_1079 dL_law_1080 ?_
  refine l_callC (As := [.int (lxX x (i + 1)), .int (lxX x (i + 2))]) (n := 2) C dL_law_1081 wl_113 yw_f11_duet ⟨rfl, rfl⟩ ⟨Nat.le_of_ble_eq_true rfl, Nat.le_of_ble_eq_true rfl⟩ hcs rfl rfl (fun _ => rfl) (Nat.le_of_ble_eq_true rfl) rfl (ok_f11_duet (K := fun z => z = (r, c')) _ _ hc ⟨_, e1, rfl⟩) (fun _ _ ad hp => pw_int ad hp) (fun r1 h1 hp1 => ?_)
  obtain ⟨v1, rfl, hv1⟩ := hp1
  obtain ⟨rfl, rfl⟩ := Prod.mk.inj hv1
  refine l_st (st' := [.int _]) rfl ?_
  refine l_aload C dL_law_1084 rfl (q := 2) rfl ?_
  refine l_arg (j := 1) (n := 1) C hi (by decide) rfl dL_law_1085 dL_law_1086 dL_law_1088 dL_law_1089 dL_law_1090 ?_
  refine l_arg (j := 2) (n := 2) C hi (by decide) rfl dL_law_1091 dL_law_1092 dL_law_1094 dL_law_1095 dL_law_1096 ?_
  refine l_callM (As := [.int (lxX x (i + 1)), .int (lxX x (i + 2))]) (n := 2) C dL_law_1097 wl_116 yw_f12_duet ⟨rfl, rfl⟩ ⟨Nat.le_of_ble_eq_true rfl, Nat.le_of_ble_eq_true rfl⟩ hcs rfl rfl (fun _ => rfl) (Nat.le_of_ble_eq_true rfl) rfl (ok_f12_duet (K := fun z => z = (_, m')) _ _ hm ⟨_, e2, rfl⟩) (fun _ _ ad hp => pw_int ad hp) (fun r1 h1 hp1 => ?_)
  obtain ⟨v2, rfl, hv2⟩ := hp1
  obtain ⟨rfl, rfl⟩ := Prod.mk.inj hv2
  refine l_st (st' := [.int _, .int _]) rfl ?_
  refine l_eq (tgt := 1806) C dL_law_1100 (by decide) rfl ?_
  exact Kk _ _ _ _ R'
theorem wi_f11_tree : Cond.instanceMethod yX11_tree ∈ wU := wU_mem (List.mem_append_right _ (List.mem_append_right _ (List.mem_append_right _ (List.mem_append_right _ (List.mem_append_left _ (List.mem_of_getElem? (l := tables_1_4) (i := 222) (by decide +kernel))))))) (by decide +kernel)
theorem wc_f11_tree : Cond.code yX11_tree cX11_tree 5 (some .int) ∈ wU := wU_mem (List.mem_append_right _ (List.mem_append_right _ (List.mem_append_right _ (List.mem_append_right _ (List.mem_append_left _ (List.mem_of_getElem? (l := tables_1_4) (i := 224) (by decide +kernel))))))) (by decide +kernel)
theorem wse_f11_tree : Cond.selects RX11 yX11_tree yX11_tree ∈ wU := wU_mem (List.mem_append_right _ (List.mem_append_right _ (List.mem_append_right _ (List.mem_append_right _ (List.mem_append_left _ (List.mem_of_getElem? (l := tables_1_4) (i := 223) (by decide +kernel))))))) (by decide +kernel)
theorem yw_f11_tree : Yv yX11_tree RX11 11 cX11_tree 5 (some .int) 0 := ⟨wi_f11_tree, wse_f11_tree, in_X11, wc_f11_tree, by decide +kernel, Nat.le_of_ble_eq_true rfl, _, rfl, rfl⟩
theorem wl_117 : Cond.methodLink RL 117 yX11_tree ∈ wU := wU_mem (List.mem_append_right _ (List.mem_append_right _ (List.mem_append_right _ (List.mem_append_right _ (List.mem_append_left _ (List.mem_of_getElem? (l := tables_1_4) (i := 221) (by decide +kernel))))))) (by decide +kernel)
theorem wi_f12_tree : Cond.instanceMethod yX12_tree ∈ wU := wU_mem (List.mem_append_right _ (List.mem_append_right _ (List.mem_append_right _ (List.mem_append_right _ (List.mem_append_right _ (List.mem_append_right _ (List.mem_append_right _ (List.mem_append_right _ (List.mem_append_left _ (List.mem_of_getElem? (l := tables_1_8) (i := 128) (by decide +kernel))))))))))) (by decide +kernel)
theorem wc_f12_tree : Cond.code yX12_tree cX12_tree 9 (some .int) ∈ wU := wU_mem (List.mem_append_right _ (List.mem_append_right _ (List.mem_append_right _ (List.mem_append_right _ (List.mem_append_right _ (List.mem_append_right _ (List.mem_append_right _ (List.mem_append_right _ (List.mem_append_left _ (List.mem_of_getElem? (l := tables_1_8) (i := 130) (by decide +kernel))))))))))) (by decide +kernel)
theorem wse_f12_tree : Cond.selects RX12 yX12_tree yX12_tree ∈ wU := wU_mem (List.mem_append_right _ (List.mem_append_right _ (List.mem_append_right _ (List.mem_append_right _ (List.mem_append_right _ (List.mem_append_right _ (List.mem_append_right _ (List.mem_append_right _ (List.mem_append_left _ (List.mem_of_getElem? (l := tables_1_8) (i := 129) (by decide +kernel))))))))))) (by decide +kernel)
theorem yw_f12_tree : Yv yX12_tree RX12 12 cX12_tree 9 (some .int) 0 := ⟨wi_f12_tree, wse_f12_tree, in_X12, wc_f12_tree, by decide +kernel, Nat.le_of_ble_eq_true rfl, _, rfl, rfl⟩
theorem wl_120 : Cond.methodLink RL 120 yX12_tree ∈ wU := wU_mem (List.mem_append_right _ (List.mem_append_right _ (List.mem_append_right _ (List.mem_append_right _ (List.mem_append_right _ (List.mem_append_right _ (List.mem_append_right _ (List.mem_append_right _ (List.mem_append_left _ (List.mem_of_getElem? (l := tables_1_8) (i := 127) (by decide +kernel))))))))))) (by decide +kernel)
theorem case_tree (C : Cl x) (hi : i + 6 ≤ lxL x) (hcs : cells ≤ room_1.cells ∧ slots ≤ room_1.slots) (R : RR S t hc hm) (Kk : ∀ S t hc' hm', RR S t hc' hm' → LG x 1806 (Vs x i) [] hc' hm' f cells slots) : LG x 1105 (Vs x i) [] hc hm f cells slots := by
  obtain ⟨S', t', r, c', m', e1, e2, R'⟩ := r_tree R
  refine l_aload C dL_law_1105 rfl (q := 3) rfl ?_
  refine l_callC (As := []) (n := 0) C dL_law_1106 wl_117 yw_f11_tree ⟨rfl, rfl⟩ ⟨Nat.le_of_ble_eq_true rfl, Nat.le_of_ble_eq_true rfl⟩ hcs rfl rfl (fun _ => rfl) (Nat.le_of_ble_eq_true rfl) rfl (ok_f11_tree (K := fun z => z = (r, c'))  hc ⟨_, e1, rfl⟩) (fun _ _ ad hp => pw_int ad hp) (fun r1 h1 hp1 => ?_)
  obtain ⟨v1, rfl, hv1⟩ := hp1
  obtain ⟨rfl, rfl⟩ := Prod.mk.inj hv1
  refine l_st (st' := [.int _]) rfl ?_
  refine l_aload C dL_law_1109 rfl (q := 2) rfl ?_
  refine l_callM (As := []) (n := 0) C dL_law_1110 wl_120 yw_f12_tree ⟨rfl, rfl⟩ ⟨Nat.le_of_ble_eq_true rfl, Nat.le_of_ble_eq_true rfl⟩ hcs rfl rfl (fun _ => rfl) (Nat.le_of_ble_eq_true rfl) rfl (ok_f12_tree (K := fun z => z = (_, m'))  hm ⟨_, e2, rfl⟩) (fun _ _ ad hp => pw_int ad hp) (fun r1 h1 hp1 => ?_)
  obtain ⟨v2, rfl, hv2⟩ := hp1
  obtain ⟨rfl, rfl⟩ := Prod.mk.inj hv2
  refine l_st (st' := [.int _, .int _]) rfl ?_
  refine l_eq (tgt := 1806) C dL_law_1113 (by decide) rfl ?_
  exact Kk _ _ _ _ R'
theorem wi_f11_far : Cond.instanceMethod yX11_far ∈ wU := wU_mem (List.mem_append_right _ (List.mem_append_right _ (List.mem_append_right _ (List.mem_append_right _ (List.mem_append_left _ (List.mem_of_getElem? (l := tables_1_4) (i := 234) (by decide +kernel))))))) (by decide +kernel)
theorem wc_f11_far : Cond.code yX11_far cX11_far 3 (some .int) ∈ wU := wU_mem (List.mem_append_right _ (List.mem_append_right _ (List.mem_append_right _ (List.mem_append_right _ (List.mem_append_left _ (List.mem_of_getElem? (l := tables_1_4) (i := 236) (by decide +kernel))))))) (by decide +kernel)
theorem wse_f11_far : Cond.selects RX11 yX11_far yX11_far ∈ wU := wU_mem (List.mem_append_right _ (List.mem_append_right _ (List.mem_append_right _ (List.mem_append_right _ (List.mem_append_left _ (List.mem_of_getElem? (l := tables_1_4) (i := 235) (by decide +kernel))))))) (by decide +kernel)
theorem yw_f11_far : Yv yX11_far RX11 11 cX11_far 3 (some .int) 2 := ⟨wi_f11_far, wse_f11_far, in_X11, wc_f11_far, by decide +kernel, Nat.le_of_ble_eq_true rfl, _, rfl, rfl⟩
theorem wl_121 : Cond.methodLink RL 121 yX11_far ∈ wU := wU_mem (List.mem_append_right _ (List.mem_append_right _ (List.mem_append_right _ (List.mem_append_right _ (List.mem_append_left _ (List.mem_of_getElem? (l := tables_1_4) (i := 233) (by decide +kernel))))))) (by decide +kernel)
theorem wi_f12_far : Cond.instanceMethod yX12_far ∈ wU := wU_mem (List.mem_append_right _ (List.mem_append_right _ (List.mem_append_right _ (List.mem_append_right _ (List.mem_append_right _ (List.mem_append_right _ (List.mem_append_right _ (List.mem_append_right _ (List.mem_append_left _ (List.mem_of_getElem? (l := tables_1_8) (i := 132) (by decide +kernel))))))))))) (by decide +kernel)
theorem wc_f12_far : Cond.code yX12_far cX12_far 3 (some .int) ∈ wU := wU_mem (List.mem_append_right _ (List.mem_append_right _ (List.mem_append_right _ (List.mem_append_right _ (List.mem_append_right _ (List.mem_append_right _ (List.mem_append_right _ (List.mem_append_right _ (List.mem_append_left _ (List.mem_of_getElem? (l := tables_1_8) (i := 134) (by decide +kernel))))))))))) (by decide +kernel)
theorem wse_f12_far : Cond.selects RX12 yX12_far yX12_far ∈ wU := wU_mem (List.mem_append_right _ (List.mem_append_right _ (List.mem_append_right _ (List.mem_append_right _ (List.mem_append_right _ (List.mem_append_right _ (List.mem_append_right _ (List.mem_append_right _ (List.mem_append_left _ (List.mem_of_getElem? (l := tables_1_8) (i := 133) (by decide +kernel))))))))))) (by decide +kernel)
theorem yw_f12_far : Yv yX12_far RX12 12 cX12_far 3 (some .int) 2 := ⟨wi_f12_far, wse_f12_far, in_X12, wc_f12_far, by decide +kernel, Nat.le_of_ble_eq_true rfl, _, rfl, rfl⟩
theorem wl_124 : Cond.methodLink RL 124 yX12_far ∈ wU := wU_mem (List.mem_append_right _ (List.mem_append_right _ (List.mem_append_right _ (List.mem_append_right _ (List.mem_append_right _ (List.mem_append_right _ (List.mem_append_right _ (List.mem_append_right _ (List.mem_append_left _ (List.mem_of_getElem? (l := tables_1_8) (i := 131) (by decide +kernel))))))))))) (by decide +kernel)
theorem case_far (C : Cl x) (hi : i + 6 ≤ lxL x) (hcs : cells ≤ room_1.cells ∧ slots ≤ room_1.slots) (R : RR S t hc hm) (Kk : ∀ S t hc' hm', RR S t hc' hm' → LG x 1806 (Vs x i) [] hc' hm' f cells slots) : LG x 1118 (Vs x i) [] hc hm f cells slots := by
  obtain ⟨r, m', e1, e2, R'⟩ := r_far R (lxX x (i + 1)) (lxX x (i + 2))
  refine l_aload C dL_law_1118 rfl (q := 3) rfl ?_
  refine l_arg (j := 1) (n := 1) C hi (by decide) rfl dL_law_1119 dL_law_1120 dL_law_1122 dL_law_1123 dL_law_1124 ?_
  refine l_arg (j := 2) (n := 2) C hi (by decide) rfl dL_law_1125 dL_law_1126 dL_law_1128 dL_law_1129 dL_law_1130 ?_
  refine l_callC (As := [.int (lxX x (i + 1)), .int (lxX x (i + 2))]) (n := 2) C dL_law_1131 wl_121 yw_f11_far ⟨rfl, rfl⟩ ⟨Nat.le_of_ble_eq_true rfl, Nat.le_of_ble_eq_true rfl⟩ hcs rfl rfl (fun _ => rfl) (Nat.le_of_ble_eq_true rfl) rfl (ok_f11_far (K := fun z => z = r) _ _ hc ⟨_, e1, rfl⟩) (fun _ _ ad hp => ps_int ad hp) (fun r1 h1 hp1 => ?_)
  obtain ⟨v1, rfl, rfl, rfl⟩ := hp1
  refine l_st (st' := [.int _]) rfl ?_
  refine l_aload C dL_law_1134 rfl (q := 2) rfl ?_
  refine l_arg (j := 1) (n := 1) C hi (by decide) rfl dL_law_1135 dL_law_1136 dL_law_1138 dL_law_1139 dL_law_1140 ?_
  refine l_arg (j := 2) (n := 2) C hi (by decide) rfl dL_law_1141 dL_law_1142 dL_law_1144 dL_law_1145 dL_law_1146 ?_
  refine l_callM (As := [.int (lxX x (i + 1)), .int (lxX x (i + 2))]) (n := 2) C dL_law_1147 wl_124 yw_f12_far ⟨rfl, rfl⟩ ⟨Nat.le_of_ble_eq_true rfl, Nat.le_of_ble_eq_true rfl⟩ hcs rfl rfl (fun _ => rfl) (Nat.le_of_ble_eq_true rfl) rfl (ok_f12_far (K := fun z => z = (_, m')) _ _ hm ⟨_, e2, rfl⟩) (fun _ _ ad hp => pw_int ad hp) (fun r1 h1 hp1 => ?_)
  obtain ⟨v2, rfl, hv2⟩ := hp1
  obtain ⟨rfl, rfl⟩ := Prod.mk.inj hv2
  refine l_st (st' := [.int _, .int _]) rfl ?_
  refine l_eq (tgt := 1806) C dL_law_1150 (by decide) rfl ?_
  exact Kk _ _ _ _ R'
theorem wi_f11_forged : Cond.instanceMethod yX11_forged ∈ wU := wU_mem (List.mem_append_right _ (List.mem_append_right _ (List.mem_append_right _ (List.mem_append_right _ (List.mem_append_right _ (List.mem_append_left _ (List.mem_of_getElem? (l := tables_1_5) (i := 2) (by decide +kernel)))))))) (by decide +kernel)
theorem wc_f11_forged : Cond.code yX11_forged cX11_forged 4 (some .int) ∈ wU := wU_mem (List.mem_append_right _ (List.mem_append_right _ (List.mem_append_right _ (List.mem_append_right _ (List.mem_append_right _ (List.mem_append_left _ (List.mem_of_getElem? (l := tables_1_5) (i := 4) (by decide +kernel)))))))) (by decide +kernel)
theorem wse_f11_forged : Cond.selects RX11 yX11_forged yX11_forged ∈ wU := wU_mem (List.mem_append_right _ (List.mem_append_right _ (List.mem_append_right _ (List.mem_append_right _ (List.mem_append_right _ (List.mem_append_left _ (List.mem_of_getElem? (l := tables_1_5) (i := 3) (by decide +kernel)))))))) (by decide +kernel)
theorem yw_f11_forged : Yv yX11_forged RX11 11 cX11_forged 4 (some .int) 0 := ⟨wi_f11_forged, wse_f11_forged, in_X11, wc_f11_forged, by decide +kernel, Nat.le_of_ble_eq_true rfl, _, rfl, rfl⟩
theorem wl_125 : Cond.methodLink RL 125 yX11_forged ∈ wU := wU_mem (List.mem_append_right _ (List.mem_append_right _ (List.mem_append_right _ (List.mem_append_right _ (List.mem_append_right _ (List.mem_append_left _ (List.mem_of_getElem? (l := tables_1_5) (i := 1) (by decide +kernel)))))))) (by decide +kernel)
theorem wi_f12_forged : Cond.instanceMethod yX12_forged ∈ wU := wU_mem (List.mem_append_right _ (List.mem_append_right _ (List.mem_append_right _ (List.mem_append_right _ (List.mem_append_right _ (List.mem_append_right _ (List.mem_append_right _ (List.mem_append_right _ (List.mem_append_left _ (List.mem_of_getElem? (l := tables_1_8) (i := 140) (by decide +kernel))))))))))) (by decide +kernel)
theorem wc_f12_forged : Cond.code yX12_forged cX12_forged 4 (some .int) ∈ wU := wU_mem (List.mem_append_right _ (List.mem_append_right _ (List.mem_append_right _ (List.mem_append_right _ (List.mem_append_right _ (List.mem_append_right _ (List.mem_append_right _ (List.mem_append_right _ (List.mem_append_left _ (List.mem_of_getElem? (l := tables_1_8) (i := 142) (by decide +kernel))))))))))) (by decide +kernel)
theorem wse_f12_forged : Cond.selects RX12 yX12_forged yX12_forged ∈ wU := wU_mem (List.mem_append_right _ (List.mem_append_right _ (List.mem_append_right _ (List.mem_append_right _ (List.mem_append_right _ (List.mem_append_right _ (List.mem_append_right _ (List.mem_append_right _ (List.mem_append_left _ (List.mem_of_getElem? (l := tables_1_8) (i := 141) (by decide +kernel))))))))))) (by decide +kernel)
theorem yw_f12_forged : Yv yX12_forged RX12 12 cX12_forged 4 (some .int) 0 := ⟨wi_f12_forged, wse_f12_forged, in_X12, wc_f12_forged, by decide +kernel, Nat.le_of_ble_eq_true rfl, _, rfl, rfl⟩
theorem wl_128 : Cond.methodLink RL 128 yX12_forged ∈ wU := wU_mem (List.mem_append_right _ (List.mem_append_right _ (List.mem_append_right _ (List.mem_append_right _ (List.mem_append_right _ (List.mem_append_right _ (List.mem_append_right _ (List.mem_append_right _ (List.mem_append_left _ (List.mem_of_getElem? (l := tables_1_8) (i := 139) (by decide +kernel))))))))))) (by decide +kernel)
theorem case_forged (C : Cl x) (hi : i + 6 ≤ lxL x) (hcs : cells ≤ room_1.cells ∧ slots ≤ room_1.slots) (R : RR S t hc hm) (Kk : ∀ S t hc' hm', RR S t hc' hm' → LG x 1806 (Vs x i) [] hc' hm' f cells slots) : LG x 1155 (Vs x i) [] hc hm f cells slots := by
  obtain ⟨S', t', r, c', m', e1, e2, R'⟩ := r_forged R
  refine l_aload C dL_law_1155 rfl (q := 3) rfl ?_
  refine l_callC (As := []) (n := 0) C dL_law_1156 wl_125 yw_f11_forged ⟨rfl, rfl⟩ ⟨Nat.le_of_ble_eq_true rfl, Nat.le_of_ble_eq_true rfl⟩ hcs rfl rfl (fun _ => rfl) (Nat.le_of_ble_eq_true rfl) rfl (ok_f11_forged (K := fun z => z = (r, c'))  hc ⟨_, e1, rfl⟩) (fun _ _ ad hp => pw_int ad hp) (fun r1 h1 hp1 => ?_)
  obtain ⟨v1, rfl, hv1⟩ := hp1
  obtain ⟨rfl, rfl⟩ := Prod.mk.inj hv1
  refine l_st (st' := [.int _]) rfl ?_
  refine l_aload C dL_law_1159 rfl (q := 2) rfl ?_
  refine l_callM (As := []) (n := 0) C dL_law_1160 wl_128 yw_f12_forged ⟨rfl, rfl⟩ ⟨Nat.le_of_ble_eq_true rfl, Nat.le_of_ble_eq_true rfl⟩ hcs rfl rfl (fun _ => rfl) (Nat.le_of_ble_eq_true rfl) rfl (ok_f12_forged (K := fun z => z = (_, m'))  hm ⟨_, e2, rfl⟩) (fun _ _ ad hp => pw_int ad hp) (fun r1 h1 hp1 => ?_)
  obtain ⟨v2, rfl, hv2⟩ := hp1
  obtain ⟨rfl, rfl⟩ := Prod.mk.inj hv2
  refine l_st (st' := [.int _, .int _]) rfl ?_
  refine l_eq (tgt := 1806) C dL_law_1163 (by decide) rfl ?_
  exact Kk _ _ _ _ R'
theorem wi_f11_lasts : Cond.instanceMethod yX11_lasts ∈ wU := wU_mem (List.mem_append_right _ (List.mem_append_right _ (List.mem_append_right _ (List.mem_append_right _ (List.mem_append_right _ (List.mem_append_left _ (List.mem_of_getElem? (l := tables_1_5) (i := 6) (by decide +kernel)))))))) (by decide +kernel)
theorem wc_f11_lasts : Cond.code yX11_lasts cX11_lasts 3 (some .int) ∈ wU := wU_mem (List.mem_append_right _ (List.mem_append_right _ (List.mem_append_right _ (List.mem_append_right _ (List.mem_append_right _ (List.mem_append_left _ (List.mem_of_getElem? (l := tables_1_5) (i := 8) (by decide +kernel)))))))) (by decide +kernel)
theorem wse_f11_lasts : Cond.selects RX11 yX11_lasts yX11_lasts ∈ wU := wU_mem (List.mem_append_right _ (List.mem_append_right _ (List.mem_append_right _ (List.mem_append_right _ (List.mem_append_right _ (List.mem_append_left _ (List.mem_of_getElem? (l := tables_1_5) (i := 7) (by decide +kernel)))))))) (by decide +kernel)
theorem yw_f11_lasts : Yv yX11_lasts RX11 11 cX11_lasts 3 (some .int) 1 := ⟨wi_f11_lasts, wse_f11_lasts, in_X11, wc_f11_lasts, by decide +kernel, Nat.le_of_ble_eq_true rfl, _, rfl, rfl⟩
theorem wl_129 : Cond.methodLink RL 129 yX11_lasts ∈ wU := wU_mem (List.mem_append_right _ (List.mem_append_right _ (List.mem_append_right _ (List.mem_append_right _ (List.mem_append_right _ (List.mem_append_left _ (List.mem_of_getElem? (l := tables_1_5) (i := 5) (by decide +kernel)))))))) (by decide +kernel)
theorem wi_f12_lasts : Cond.instanceMethod yX12_lasts ∈ wU := wU_mem (List.mem_append_right _ (List.mem_append_right _ (List.mem_append_right _ (List.mem_append_right _ (List.mem_append_right _ (List.mem_append_right _ (List.mem_append_right _ (List.mem_append_right _ (List.mem_append_left _ (List.mem_of_getElem? (l := tables_1_8) (i := 172) (by decide +kernel))))))))))) (by decide +kernel)
theorem wc_f12_lasts : Cond.code yX12_lasts cX12_lasts 3 (some .int) ∈ wU := wU_mem (List.mem_append_right _ (List.mem_append_right _ (List.mem_append_right _ (List.mem_append_right _ (List.mem_append_right _ (List.mem_append_right _ (List.mem_append_right _ (List.mem_append_right _ (List.mem_append_left _ (List.mem_of_getElem? (l := tables_1_8) (i := 174) (by decide +kernel))))))))))) (by decide +kernel)
theorem wse_f12_lasts : Cond.selects RX12 yX12_lasts yX12_lasts ∈ wU := wU_mem (List.mem_append_right _ (List.mem_append_right _ (List.mem_append_right _ (List.mem_append_right _ (List.mem_append_right _ (List.mem_append_right _ (List.mem_append_right _ (List.mem_append_right _ (List.mem_append_left _ (List.mem_of_getElem? (l := tables_1_8) (i := 173) (by decide +kernel))))))))))) (by decide +kernel)
theorem yw_f12_lasts : Yv yX12_lasts RX12 12 cX12_lasts 3 (some .int) 1 := ⟨wi_f12_lasts, wse_f12_lasts, in_X12, wc_f12_lasts, by decide +kernel, Nat.le_of_ble_eq_true rfl, _, rfl, rfl⟩
theorem wl_132 : Cond.methodLink RL 132 yX12_lasts ∈ wU := wU_mem (List.mem_append_right _ (List.mem_append_right _ (List.mem_append_right _ (List.mem_append_right _ (List.mem_append_right _ (List.mem_append_right _ (List.mem_append_right _ (List.mem_append_right _ (List.mem_append_left _ (List.mem_of_getElem? (l := tables_1_8) (i := 171) (by decide +kernel))))))))))) (by decide +kernel)
theorem case_lasts (C : Cl x) (hi : i + 6 ≤ lxL x) (hcs : cells ≤ room_1.cells ∧ slots ≤ room_1.slots) (R : RR S t hc hm) (Kk : ∀ S t hc' hm', RR S t hc' hm' → LG x 1806 (Vs x i) [] hc' hm' f cells slots) : LG x 1168 (Vs x i) [] hc hm f cells slots := by
  obtain ⟨S', t', r, c', m', e1, e2, R'⟩ := r_lasts R (lxX x (i + 1))
  refine l_aload C dL_law_1168 rfl (q := 3) rfl ?_
  refine l_arg (j := 1) (n := 1) C hi (by decide) rfl dL_law_1169 dL_law_1170 dL_law_1172 dL_law_1173 dL_law_1174 ?_
  refine l_callC (As := [.int (lxX x (i + 1))]) (n := 1) C dL_law_1175 wl_129 yw_f11_lasts ⟨rfl, rfl⟩ ⟨Nat.le_of_ble_eq_true rfl, Nat.le_of_ble_eq_true rfl⟩ hcs rfl rfl (fun _ => rfl) (Nat.le_of_ble_eq_true rfl) rfl (ok_f11_lasts (K := fun z => z = (r, c')) _ hc ⟨_, e1, rfl⟩) (fun _ _ ad hp => pw_int ad hp) (fun r1 h1 hp1 => ?_)
  obtain ⟨v1, rfl, hv1⟩ := hp1
  obtain ⟨rfl, rfl⟩ := Prod.mk.inj hv1
  refine l_st (st' := [.int _]) rfl ?_
  refine l_aload C dL_law_1178 rfl (q := 2) rfl ?_
  refine l_arg (j := 1) (n := 1) C hi (by decide) rfl dL_law_1179 dL_law_1180 dL_law_1182 dL_law_1183 dL_law_1184 ?_
  refine l_callM (As := [.int (lxX x (i + 1))]) (n := 1) C dL_law_1185 wl_132 yw_f12_lasts ⟨rfl, rfl⟩ ⟨Nat.le_of_ble_eq_true rfl, Nat.le_of_ble_eq_true rfl⟩ hcs rfl rfl (fun _ => rfl) (Nat.le_of_ble_eq_true rfl) rfl (ok_f12_lasts (K := fun z => z = (_, m')) _ hm ⟨_, e2, rfl⟩) (fun _ _ ad hp => pw_int ad hp) (fun r1 h1 hp1 => ?_)
  obtain ⟨v2, rfl, hv2⟩ := hp1
  obtain ⟨rfl, rfl⟩ := Prod.mk.inj hv2
  refine l_st (st' := [.int _, .int _]) rfl ?_
  refine l_eq (tgt := 1806) C dL_law_1188 (by decide) rfl ?_
  exact Kk _ _ _ _ R'
theorem wi_f11_winding : Cond.instanceMethod yX11_winding ∈ wU := wU_mem (List.mem_append_right _ (List.mem_append_right _ (List.mem_append_right _ (List.mem_append_right _ (List.mem_append_right _ (List.mem_append_left _ (List.mem_of_getElem? (l := tables_1_5) (i := 11) (by decide +kernel)))))))) (by decide +kernel)
theorem wc_f11_winding : Cond.code yX11_winding cX11_winding 6 (some .int) ∈ wU := wU_mem (List.mem_append_right _ (List.mem_append_right _ (List.mem_append_right _ (List.mem_append_right _ (List.mem_append_right _ (List.mem_append_left _ (List.mem_of_getElem? (l := tables_1_5) (i := 13) (by decide +kernel)))))))) (by decide +kernel)
theorem wse_f11_winding : Cond.selects RX11 yX11_winding yX11_winding ∈ wU := wU_mem (List.mem_append_right _ (List.mem_append_right _ (List.mem_append_right _ (List.mem_append_right _ (List.mem_append_right _ (List.mem_append_left _ (List.mem_of_getElem? (l := tables_1_5) (i := 12) (by decide +kernel)))))))) (by decide +kernel)
theorem yw_f11_winding : Yv yX11_winding RX11 11 cX11_winding 6 (some .int) 3 := ⟨wi_f11_winding, wse_f11_winding, in_X11, wc_f11_winding, by decide +kernel, Nat.le_of_ble_eq_true rfl, _, rfl, rfl⟩
theorem wl_133 : Cond.methodLink RL 133 yX11_winding ∈ wU := wU_mem (List.mem_append_right _ (List.mem_append_right _ (List.mem_append_right _ (List.mem_append_right _ (List.mem_append_right _ (List.mem_append_left _ (List.mem_of_getElem? (l := tables_1_5) (i := 10) (by decide +kernel)))))))) (by decide +kernel)
theorem wi_f12_winding : Cond.instanceMethod yX12_winding ∈ wU := wU_mem (List.mem_append_right _ (List.mem_append_right _ (List.mem_append_right _ (List.mem_append_right _ (List.mem_append_right _ (List.mem_append_right _ (List.mem_append_right _ (List.mem_append_right _ (List.mem_append_left _ (List.mem_of_getElem? (l := tables_1_8) (i := 176) (by decide +kernel))))))))))) (by decide +kernel)
theorem wc_f12_winding : Cond.code yX12_winding cX12_winding 11 (some .int) ∈ wU := wU_mem (List.mem_append_right _ (List.mem_append_right _ (List.mem_append_right _ (List.mem_append_right _ (List.mem_append_right _ (List.mem_append_right _ (List.mem_append_right _ (List.mem_append_right _ (List.mem_append_left _ (List.mem_of_getElem? (l := tables_1_8) (i := 178) (by decide +kernel))))))))))) (by decide +kernel)
theorem wse_f12_winding : Cond.selects RX12 yX12_winding yX12_winding ∈ wU := wU_mem (List.mem_append_right _ (List.mem_append_right _ (List.mem_append_right _ (List.mem_append_right _ (List.mem_append_right _ (List.mem_append_right _ (List.mem_append_right _ (List.mem_append_right _ (List.mem_append_left _ (List.mem_of_getElem? (l := tables_1_8) (i := 177) (by decide +kernel))))))))))) (by decide +kernel)
theorem yw_f12_winding : Yv yX12_winding RX12 12 cX12_winding 11 (some .int) 3 := ⟨wi_f12_winding, wse_f12_winding, in_X12, wc_f12_winding, by decide +kernel, Nat.le_of_ble_eq_true rfl, _, rfl, rfl⟩
theorem wl_136 : Cond.methodLink RL 136 yX12_winding ∈ wU := wU_mem (List.mem_append_right _ (List.mem_append_right _ (List.mem_append_right _ (List.mem_append_right _ (List.mem_append_right _ (List.mem_append_right _ (List.mem_append_right _ (List.mem_append_right _ (List.mem_append_left _ (List.mem_of_getElem? (l := tables_1_8) (i := 175) (by decide +kernel))))))))))) (by decide +kernel)
theorem case_winding (C : Cl x) (hi : i + 6 ≤ lxL x) (hcs : cells ≤ room_1.cells ∧ slots ≤ room_1.slots) (R : RR S t hc hm) (Kk : ∀ S t hc' hm', RR S t hc' hm' → LG x 1806 (Vs x i) [] hc' hm' f cells slots) : LG x 1193 (Vs x i) [] hc hm f cells slots := by
  obtain ⟨S', t', r, c', m', e1, e2, R'⟩ := r_winding R (lxX x (i + 1)) (lxX x (i + 2)) (lxX x (i + 3))
  refine l_aload C dL_law_1193 rfl (q := 3) rfl ?_
  refine l_arg (j := 1) (n := 1) C hi (by decide) rfl dL_law_1194 dL_law_1195 dL_law_1197 dL_law_1198 dL_law_1199 ?_
  refine l_arg (j := 2) (n := 2) C hi (by decide) rfl dL_law_1200 dL_law_1201 dL_law_1203 dL_law_1204 dL_law_1205 ?_
  refine l_arg (j := 3) (n := 3) C hi (by decide) rfl dL_law_1206 dL_law_1207 dL_law_1209 dL_law_1210 dL_law_1211 ?_
  refine l_callC (As := [.int (lxX x (i + 1)), .int (lxX x (i + 2)), .int (lxX x (i + 3))]) (n := 3) C dL_law_1212 wl_133 yw_f11_winding ⟨rfl, rfl⟩ ⟨Nat.le_of_ble_eq_true rfl, Nat.le_of_ble_eq_true rfl⟩ hcs rfl rfl (fun _ => rfl) (Nat.le_of_ble_eq_true rfl) rfl (ok_f11_winding (K := fun z => z = (r, c')) _ _ _ hc ⟨_, e1, rfl⟩) (fun _ _ ad hp => pw_int ad hp) (fun r1 h1 hp1 => ?_)
  obtain ⟨v1, rfl, hv1⟩ := hp1
  obtain ⟨rfl, rfl⟩ := Prod.mk.inj hv1
  refine l_st (st' := [.int _]) rfl ?_
  refine l_aload C dL_law_1215 rfl (q := 2) rfl ?_
  refine l_arg (j := 1) (n := 1) C hi (by decide) rfl dL_law_1216 dL_law_1217 dL_law_1219 dL_law_1220 dL_law_1221 ?_
  refine l_arg (j := 2) (n := 2) C hi (by decide) rfl dL_law_1222 dL_law_1223 dL_law_1225 dL_law_1226 dL_law_1227 ?_
  refine l_arg (j := 3) (n := 3) C hi (by decide) rfl dL_law_1228 dL_law_1229 dL_law_1231 dL_law_1232 dL_law_1233 ?_
  refine l_callM (As := [.int (lxX x (i + 1)), .int (lxX x (i + 2)), .int (lxX x (i + 3))]) (n := 3) C dL_law_1234 wl_136 yw_f12_winding ⟨rfl, rfl⟩ ⟨Nat.le_of_ble_eq_true rfl, Nat.le_of_ble_eq_true rfl⟩ hcs rfl rfl (fun _ => rfl) (Nat.le_of_ble_eq_true rfl) rfl (ok_f12_winding (K := fun z => z = (_, m')) _ _ _ hm ⟨_, e2, rfl⟩) (fun _ _ ad hp => pw_int ad hp) (fun r1 h1 hp1 => ?_)
  obtain ⟨v2, rfl, hv2⟩ := hp1
  obtain ⟨rfl, rfl⟩ := Prod.mk.inj hv2
  refine l_st (st' := [.int _, .int _]) rfl ?_
  refine l_eq (tgt := 1806) C dL_law_1237 (by decide) rfl ?_
  exact Kk _ _ _ _ R'
theorem wi_f11_laughBack : Cond.instanceMethod yX11_laughBack ∈ wU := wU_mem (List.mem_append_right _ (List.mem_append_right _ (List.mem_append_right _ (List.mem_append_right _ (List.mem_append_right _ (List.mem_append_left _ (List.mem_of_getElem? (l := tables_1_5) (i := 27) (by decide +kernel)))))))) (by decide +kernel)
theorem wc_f11_laughBack : Cond.code yX11_laughBack cX11_laughBack 3 (some .int) ∈ wU := wU_mem (List.mem_append_right _ (List.mem_append_right _ (List.mem_append_right _ (List.mem_append_right _ (List.mem_append_right _ (List.mem_append_left _ (List.mem_of_getElem? (l := tables_1_5) (i := 29) (by decide +kernel)))))))) (by decide +kernel)
theorem wse_f11_laughBack : Cond.selects RX11 yX11_laughBack yX11_laughBack ∈ wU := wU_mem (List.mem_append_right _ (List.mem_append_right _ (List.mem_append_right _ (List.mem_append_right _ (List.mem_append_right _ (List.mem_append_left _ (List.mem_of_getElem? (l := tables_1_5) (i := 28) (by decide +kernel)))))))) (by decide +kernel)
theorem yw_f11_laughBack : Yv yX11_laughBack RX11 11 cX11_laughBack 3 (some .int) 1 := ⟨wi_f11_laughBack, wse_f11_laughBack, in_X11, wc_f11_laughBack, by decide +kernel, Nat.le_of_ble_eq_true rfl, _, rfl, rfl⟩
theorem wl_137 : Cond.methodLink RL 137 yX11_laughBack ∈ wU := wU_mem (List.mem_append_right _ (List.mem_append_right _ (List.mem_append_right _ (List.mem_append_right _ (List.mem_append_right _ (List.mem_append_left _ (List.mem_of_getElem? (l := tables_1_5) (i := 26) (by decide +kernel)))))))) (by decide +kernel)
theorem wi_f12_laughBack : Cond.instanceMethod yX12_laughBack ∈ wU := wU_mem (List.mem_append_right _ (List.mem_append_right _ (List.mem_append_right _ (List.mem_append_right _ (List.mem_append_right _ (List.mem_append_right _ (List.mem_append_right _ (List.mem_append_right _ (List.mem_append_left _ (List.mem_of_getElem? (l := tables_1_8) (i := 188) (by decide +kernel))))))))))) (by decide +kernel)
theorem wc_f12_laughBack : Cond.code yX12_laughBack cX12_laughBack 5 (some .int) ∈ wU := wU_mem (List.mem_append_right _ (List.mem_append_right _ (List.mem_append_right _ (List.mem_append_right _ (List.mem_append_right _ (List.mem_append_right _ (List.mem_append_right _ (List.mem_append_right _ (List.mem_append_left _ (List.mem_of_getElem? (l := tables_1_8) (i := 190) (by decide +kernel))))))))))) (by decide +kernel)
theorem wse_f12_laughBack : Cond.selects RX12 yX12_laughBack yX12_laughBack ∈ wU := wU_mem (List.mem_append_right _ (List.mem_append_right _ (List.mem_append_right _ (List.mem_append_right _ (List.mem_append_right _ (List.mem_append_right _ (List.mem_append_right _ (List.mem_append_right _ (List.mem_append_left _ (List.mem_of_getElem? (l := tables_1_8) (i := 189) (by decide +kernel))))))))))) (by decide +kernel)
theorem yw_f12_laughBack : Yv yX12_laughBack RX12 12 cX12_laughBack 5 (some .int) 1 := ⟨wi_f12_laughBack, wse_f12_laughBack, in_X12, wc_f12_laughBack, by decide +kernel, Nat.le_of_ble_eq_true rfl, _, rfl, rfl⟩
theorem wl_140 : Cond.methodLink RL 140 yX12_laughBack ∈ wU := wU_mem (List.mem_append_right _ (List.mem_append_right _ (List.mem_append_right _ (List.mem_append_right _ (List.mem_append_right _ (List.mem_append_right _ (List.mem_append_right _ (List.mem_append_right _ (List.mem_append_left _ (List.mem_of_getElem? (l := tables_1_8) (i := 187) (by decide +kernel))))))))))) (by decide +kernel)
theorem case_laughBack (C : Cl x) (hi : i + 6 ≤ lxL x) (hcs : cells ≤ room_1.cells ∧ slots ≤ room_1.slots) (R : RR S t hc hm) (Kk : ∀ S t hc' hm', RR S t hc' hm' → LG x 1806 (Vs x i) [] hc' hm' f cells slots) : LG x 1242 (Vs x i) [] hc hm f cells slots := by
  obtain ⟨r, m', e1, e2, R'⟩ := r_laughBack R (lxX x (i + 1))
  refine l_aload C dL_law_1242 rfl (q := 3) rfl ?_
  refine l_arg (j := 1) (n := 1) C hi (by decide) rfl dL_law_1243 dL_law_1244 dL_law_1246 dL_law_1247 dL_law_1248 ?_
  refine l_callC (As := [.int (lxX x (i + 1))]) (n := 1) C dL_law_1249 wl_137 yw_f11_laughBack ⟨rfl, rfl⟩ ⟨Nat.le_of_ble_eq_true rfl, Nat.le_of_ble_eq_true rfl⟩ hcs rfl rfl (fun _ => rfl) (Nat.le_of_ble_eq_true rfl) rfl (ok_f11_laughBack (K := fun z => z = r) _ hc ⟨_, e1, rfl⟩) (fun _ _ ad hp => ps_int ad hp) (fun r1 h1 hp1 => ?_)
  obtain ⟨v1, rfl, rfl, rfl⟩ := hp1
  refine l_st (st' := [.int _]) rfl ?_
  refine l_aload C dL_law_1252 rfl (q := 2) rfl ?_
  refine l_arg (j := 1) (n := 1) C hi (by decide) rfl dL_law_1253 dL_law_1254 dL_law_1256 dL_law_1257 dL_law_1258 ?_
  refine l_callM (As := [.int (lxX x (i + 1))]) (n := 1) C dL_law_1259 wl_140 yw_f12_laughBack ⟨rfl, rfl⟩ ⟨Nat.le_of_ble_eq_true rfl, Nat.le_of_ble_eq_true rfl⟩ hcs rfl rfl (fun _ => rfl) (Nat.le_of_ble_eq_true rfl) rfl (ok_f12_laughBack (K := fun z => z = (_, m')) _ hm ⟨_, e2, rfl⟩) (fun _ _ ad hp => pw_int ad hp) (fun r1 h1 hp1 => ?_)
  obtain ⟨v2, rfl, hv2⟩ := hp1
  obtain ⟨rfl, rfl⟩ := Prod.mk.inj hv2
  refine l_st (st' := [.int _, .int _]) rfl ?_
  refine l_eq (tgt := 1806) C dL_law_1262 (by decide) rfl ?_
  exact Kk _ _ _ _ R'
theorem wi_f11_rests : Cond.instanceMethod yX11_rests ∈ wU := wU_mem (List.mem_append_right _ (List.mem_append_right _ (List.mem_append_right _ (List.mem_append_right _ (List.mem_append_right _ (List.mem_append_left _ (List.mem_of_getElem? (l := tables_1_5) (i := 35) (by decide +kernel)))))))) (by decide +kernel)
theorem wc_f11_rests : Cond.code yX11_rests cX11_rests 6 (some .int) ∈ wU := wU_mem (List.mem_append_right _ (List.mem_append_right _ (List.mem_append_right _ (List.mem_append_right _ (List.mem_append_right _ (List.mem_append_left _ (List.mem_of_getElem? (l := tables_1_5) (i := 37) (by decide +kernel)))))))) (by decide +kernel)
theorem wse_f11_rests : Cond.selects RX11 yX11_rests yX11_rests ∈ wU := wU_mem (List.mem_append_right _ (List.mem_append_right _ (List.mem_append_right _ (List.mem_append_right _ (List.mem_append_right _ (List.mem_append_left _ (List.mem_of_getElem? (l := tables_1_5) (i := 36) (by decide +kernel)))))))) (by decide +kernel)
theorem yw_f11_rests : Yv yX11_rests RX11 11 cX11_rests 6 (some .int) 1 := ⟨wi_f11_rests, wse_f11_rests, in_X11, wc_f11_rests, by decide +kernel, Nat.le_of_ble_eq_true rfl, _, rfl, rfl⟩
theorem wl_141 : Cond.methodLink RL 141 yX11_rests ∈ wU := wU_mem (List.mem_append_right _ (List.mem_append_right _ (List.mem_append_right _ (List.mem_append_right _ (List.mem_append_right _ (List.mem_append_left _ (List.mem_of_getElem? (l := tables_1_5) (i := 34) (by decide +kernel)))))))) (by decide +kernel)
theorem wi_f12_rests : Cond.instanceMethod yX12_rests ∈ wU := wU_mem (List.mem_append_right _ (List.mem_append_right _ (List.mem_append_right _ (List.mem_append_right _ (List.mem_append_right _ (List.mem_append_right _ (List.mem_append_right _ (List.mem_append_right _ (List.mem_append_left _ (List.mem_of_getElem? (l := tables_1_8) (i := 192) (by decide +kernel))))))))))) (by decide +kernel)
theorem wc_f12_rests : Cond.code yX12_rests cX12_rests 2 (some .int) ∈ wU := wU_mem (List.mem_append_right _ (List.mem_append_right _ (List.mem_append_right _ (List.mem_append_right _ (List.mem_append_right _ (List.mem_append_right _ (List.mem_append_right _ (List.mem_append_right _ (List.mem_append_left _ (List.mem_of_getElem? (l := tables_1_8) (i := 194) (by decide +kernel))))))))))) (by decide +kernel)
theorem wse_f12_rests : Cond.selects RX12 yX12_rests yX12_rests ∈ wU := wU_mem (List.mem_append_right _ (List.mem_append_right _ (List.mem_append_right _ (List.mem_append_right _ (List.mem_append_right _ (List.mem_append_right _ (List.mem_append_right _ (List.mem_append_right _ (List.mem_append_left _ (List.mem_of_getElem? (l := tables_1_8) (i := 193) (by decide +kernel))))))))))) (by decide +kernel)
theorem yw_f12_rests : Yv yX12_rests RX12 12 cX12_rests 2 (some .int) 1 := ⟨wi_f12_rests, wse_f12_rests, in_X12, wc_f12_rests, by decide +kernel, Nat.le_of_ble_eq_true rfl, _, rfl, rfl⟩
theorem wl_144 : Cond.methodLink RL 144 yX12_rests ∈ wU := wU_mem (List.mem_append_right _ (List.mem_append_right _ (List.mem_append_right _ (List.mem_append_right _ (List.mem_append_right _ (List.mem_append_right _ (List.mem_append_right _ (List.mem_append_right _ (List.mem_append_left _ (List.mem_of_getElem? (l := tables_1_8) (i := 191) (by decide +kernel))))))))))) (by decide +kernel)
theorem case_rests (C : Cl x) (hi : i + 6 ≤ lxL x) (hcs : cells ≤ room_1.cells ∧ slots ≤ room_1.slots) (R : RR S t hc hm) (Kk : ∀ S t hc' hm', RR S t hc' hm' → LG x 1806 (Vs x i) [] hc' hm' f cells slots) : LG x 1267 (Vs x i) [] hc hm f cells slots := by
  obtain ⟨S', t', r, c', m', e1, e2, R'⟩ := r_rests R (lxX x (i + 1))
  refine l_aload C dL_law_1267 rfl (q := 3) rfl ?_
  refine l_arg (j := 1) (n := 1) C hi (by decide) rfl dL_law_1268 dL_law_1269 dL_law_1271 dL_law_1272 dL_law_1273 ?_
  refine l_callC (As := [.int (lxX x (i + 1))]) (n := 1) C dL_law_1274 wl_141 yw_f11_rests ⟨rfl, rfl⟩ ⟨Nat.le_of_ble_eq_true rfl, Nat.le_of_ble_eq_true rfl⟩ hcs rfl rfl (fun _ => rfl) (Nat.le_of_ble_eq_true rfl) rfl (ok_f11_rests (K := fun z => z = (r, c')) _ hc ⟨_, e1, rfl⟩) (fun _ _ ad hp => pw_int ad hp) (fun r1 h1 hp1 => ?_)
  obtain ⟨v1, rfl, hv1⟩ := hp1
  obtain ⟨rfl, rfl⟩ := Prod.mk.inj hv1
  refine l_st (st' := [.int _]) rfl ?_
  refine l_aload C dL_law_1277 rfl (q := 2) rfl ?_
  refine l_arg (j := 1) (n := 1) C hi (by decide) rfl dL_law_1278 dL_law_1279 dL_law_1281 dL_law_1282 dL_law_1283 ?_
  refine l_callM (As := [.int (lxX x (i + 1))]) (n := 1) C dL_law_1284 wl_144 yw_f12_rests ⟨rfl, rfl⟩ ⟨Nat.le_of_ble_eq_true rfl, Nat.le_of_ble_eq_true rfl⟩ hcs rfl rfl (fun _ => rfl) (Nat.le_of_ble_eq_true rfl) rfl (ok_f12_rests (K := fun z => z = (_, m')) _ hm ⟨_, e2, rfl⟩) (fun _ _ ad hp => pw_int ad hp) (fun r1 h1 hp1 => ?_)
  obtain ⟨v2, rfl, hv2⟩ := hp1
  obtain ⟨rfl, rfl⟩ := Prod.mk.inj hv2
  refine l_st (st' := [.int _, .int _]) rfl ?_
  refine l_eq (tgt := 1806) C dL_law_1287 (by decide) rfl ?_
  exact Kk _ _ _ _ R'
theorem wi_f11_rest : Cond.instanceMethod yX11_rest ∈ wU := wU_mem (List.mem_append_right _ (List.mem_append_right _ (List.mem_append_right _ (List.mem_append_right _ (List.mem_append_right _ (List.mem_append_left _ (List.mem_of_getElem? (l := tables_1_5) (i := 49) (by decide +kernel)))))))) (by decide +kernel)
theorem wc_f11_rest : Cond.code yX11_rest cX11_rest 7 (some .int) ∈ wU := wU_mem (List.mem_append_right _ (List.mem_append_right _ (List.mem_append_right _ (List.mem_append_right _ (List.mem_append_right _ (List.mem_append_left _ (List.mem_of_getElem? (l := tables_1_5) (i := 51) (by decide +kernel)))))))) (by decide +kernel)
theorem wse_f11_rest : Cond.selects RX11 yX11_rest yX11_rest ∈ wU := wU_mem (List.mem_append_right _ (List.mem_append_right _ (List.mem_append_right _ (List.mem_append_right _ (List.mem_append_right _ (List.mem_append_left _ (List.mem_of_getElem? (l := tables_1_5) (i := 50) (by decide +kernel)))))))) (by decide +kernel)
theorem yw_f11_rest : Yv yX11_rest RX11 11 cX11_rest 7 (some .int) 2 := ⟨wi_f11_rest, wse_f11_rest, in_X11, wc_f11_rest, by decide +kernel, Nat.le_of_ble_eq_true rfl, _, rfl, rfl⟩
theorem wl_145 : Cond.methodLink RL 145 yX11_rest ∈ wU := wU_mem (List.mem_append_right _ (List.mem_append_right _ (List.mem_append_right _ (List.mem_append_right _ (List.mem_append_right _ (List.mem_append_left _ (List.mem_of_getElem? (l := tables_1_5) (i := 48) (by decide +kernel)))))))) (by decide +kernel)
theorem wi_f12_rest : Cond.instanceMethod yX12_rest ∈ wU := wU_mem (List.mem_append_right _ (List.mem_append_right _ (List.mem_append_right _ (List.mem_append_right _ (List.mem_append_right _ (List.mem_append_right _ (List.mem_append_right _ (List.mem_append_right _ (List.mem_append_left _ (List.mem_of_getElem? (l := tables_1_8) (i := 206) (by decide +kernel))))))))))) (by decide +kernel)
theorem wc_f12_rest : Cond.code yX12_rest cX12_rest 3 (some .int) ∈ wU := wU_mem (List.mem_append_right _ (List.mem_append_right _ (List.mem_append_right _ (List.mem_append_right _ (List.mem_append_right _ (List.mem_append_right _ (List.mem_append_right _ (List.mem_append_right _ (List.mem_append_left _ (List.mem_of_getElem? (l := tables_1_8) (i := 208) (by decide +kernel))))))))))) (by decide +kernel)
theorem wse_f12_rest : Cond.selects RX12 yX12_rest yX12_rest ∈ wU := wU_mem (List.mem_append_right _ (List.mem_append_right _ (List.mem_append_right _ (List.mem_append_right _ (List.mem_append_right _ (List.mem_append_right _ (List.mem_append_right _ (List.mem_append_right _ (List.mem_append_left _ (List.mem_of_getElem? (l := tables_1_8) (i := 207) (by decide +kernel))))))))))) (by decide +kernel)
theorem yw_f12_rest : Yv yX12_rest RX12 12 cX12_rest 3 (some .int) 2 := ⟨wi_f12_rest, wse_f12_rest, in_X12, wc_f12_rest, by decide +kernel, Nat.le_of_ble_eq_true rfl, _, rfl, rfl⟩
theorem wl_148 : Cond.methodLink RL 148 yX12_rest ∈ wU := wU_mem (List.mem_append_right _ (List.mem_append_right _ (List.mem_append_right _ (List.mem_append_right _ (List.mem_append_right _ (List.mem_append_right _ (List.mem_append_right _ (List.mem_append_right _ (List.mem_append_left _ (List.mem_of_getElem? (l := tables_1_8) (i := 205) (by decide +kernel))))))))))) (by decide +kernel)
theorem case_rest (C : Cl x) (hi : i + 6 ≤ lxL x) (hcs : cells ≤ room_1.cells ∧ slots ≤ room_1.slots) (R : RR S t hc hm) (Kk : ∀ S t hc' hm', RR S t hc' hm' → LG x 1806 (Vs x i) [] hc' hm' f cells slots) : LG x 1292 (Vs x i) [] hc hm f cells slots := by
  obtain ⟨S', t', r, c', m', e1, e2, R'⟩ := r_rest R (lxX x (i + 1)) (lxX x (i + 2))
  refine l_aload C dL_law_1292 rfl (q := 3) rfl ?_
  refine l_arg (j := 1) (n := 1) C hi (by decide) rfl dL_law_1293 dL_law_1294 dL_law_1296 dL_law_1297 dL_law_1298 ?_
  refine l_arg (j := 2) (n := 2) C hi (by decide) rfl dL_law_1299 dL_law_1300 dL_law_1302 dL_law_1303 dL_law_1304 ?_
  refine l_callC (As := [.int (lxX x (i + 1)), .int (lxX x (i + 2))]) (n := 2) C dL_law_1305 wl_145 yw_f11_rest ⟨rfl, rfl⟩ ⟨Nat.le_of_ble_eq_true rfl, Nat.le_of_ble_eq_true rfl⟩ hcs rfl rfl (fun _ => rfl) (Nat.le_of_ble_eq_true rfl) rfl (ok_f11_rest (K := fun z => z = (r, c')) _ _ hc ⟨_, e1, rfl⟩) (fun _ _ ad hp => pw_int ad hp) (fun r1 h1 hp1 => ?_)
  obtain ⟨v1, rfl, hv1⟩ := hp1
  obtain ⟨rfl, rfl⟩ := Prod.mk.inj hv1
  refine l_st (st' := [.int _]) rfl ?_
  refine l_aload C dL_law_1308 rfl (q := 2) rfl ?_
  refine l_arg (j := 1) (n := 1) C hi (by decide) rfl dL_law_1309 dL_law_1310 dL_law_1312 dL_law_1313 dL_law_1314 ?_
  refine l_arg (j := 2) (n := 2) C hi (by decide) rfl dL_law_1315 dL_law_1316 dL_law_1318 dL_law_1319 dL_law_1320 ?_
  refine l_callM (As := [.int (lxX x (i + 1)), .int (lxX x (i + 2))]) (n := 2) C dL_law_1321 wl_148 yw_f12_rest ⟨rfl, rfl⟩ ⟨Nat.le_of_ble_eq_true rfl, Nat.le_of_ble_eq_true rfl⟩ hcs rfl rfl (fun _ => rfl) (Nat.le_of_ble_eq_true rfl) rfl (ok_f12_rest (K := fun z => z = (_, m')) _ _ hm ⟨_, e2, rfl⟩) (fun _ _ ad hp => pw_int ad hp) (fun r1 h1 hp1 => ?_)
  obtain ⟨v2, rfl, hv2⟩ := hp1
  obtain ⟨rfl, rfl⟩ := Prod.mk.inj hv2
  refine l_st (st' := [.int _, .int _]) rfl ?_
  refine l_eq (tgt := 1806) C dL_law_1324 (by decide) rfl ?_
  exact Kk _ _ _ _ R'
theorem wi_f11_ask : Cond.instanceMethod yX11_ask ∈ wU := wU_mem (List.mem_append_right _ (List.mem_append_right _ (List.mem_append_right _ (List.mem_append_right _ (List.mem_append_right _ (List.mem_append_left _ (List.mem_of_getElem? (l := tables_1_5) (i := 53) (by decide +kernel)))))))) (by decide +kernel)
theorem wc_f11_ask : Cond.code yX11_ask cX11_ask 5 (some .int) ∈ wU := wU_mem (List.mem_append_right _ (List.mem_append_right _ (List.mem_append_right _ (List.mem_append_right _ (List.mem_append_right _ (List.mem_append_left _ (List.mem_of_getElem? (l := tables_1_5) (i := 55) (by decide +kernel)))))))) (by decide +kernel)
theorem wse_f11_ask : Cond.selects RX11 yX11_ask yX11_ask ∈ wU := wU_mem (List.mem_append_right _ (List.mem_append_right _ (List.mem_append_right _ (List.mem_append_right _ (List.mem_append_right _ (List.mem_append_left _ (List.mem_of_getElem? (l := tables_1_5) (i := 54) (by decide +kernel)))))))) (by decide +kernel)
theorem yw_f11_ask : Yv yX11_ask RX11 11 cX11_ask 5 (some .int) 1 := ⟨wi_f11_ask, wse_f11_ask, in_X11, wc_f11_ask, by decide +kernel, Nat.le_of_ble_eq_true rfl, _, rfl, rfl⟩
theorem wl_149 : Cond.methodLink RL 149 yX11_ask ∈ wU := wU_mem (List.mem_append_right _ (List.mem_append_right _ (List.mem_append_right _ (List.mem_append_right _ (List.mem_append_right _ (List.mem_append_left _ (List.mem_of_getElem? (l := tables_1_5) (i := 52) (by decide +kernel)))))))) (by decide +kernel)
theorem wi_f12_ask : Cond.instanceMethod yX12_ask ∈ wU := wU_mem (List.mem_append_right _ (List.mem_append_right _ (List.mem_append_right _ (List.mem_append_right _ (List.mem_append_right _ (List.mem_append_right _ (List.mem_append_right _ (List.mem_append_right _ (List.mem_append_right _ (List.mem_of_getElem? (l := tables_1_9) (i := 2) (by decide +kernel))))))))))) (by decide +kernel)
theorem wc_f12_ask : Cond.code yX12_ask cX12_ask 5 (some .int) ∈ wU := wU_mem (List.mem_append_right _ (List.mem_append_right _ (List.mem_append_right _ (List.mem_append_right _ (List.mem_append_right _ (List.mem_append_right _ (List.mem_append_right _ (List.mem_append_right _ (List.mem_append_right _ (List.mem_of_getElem? (l := tables_1_9) (i := 4) (by decide +kernel))))))))))) (by decide +kernel)
theorem wse_f12_ask : Cond.selects RX12 yX12_ask yX12_ask ∈ wU := wU_mem (List.mem_append_right _ (List.mem_append_right _ (List.mem_append_right _ (List.mem_append_right _ (List.mem_append_right _ (List.mem_append_right _ (List.mem_append_right _ (List.mem_append_right _ (List.mem_append_right _ (List.mem_of_getElem? (l := tables_1_9) (i := 3) (by decide +kernel))))))))))) (by decide +kernel)
theorem yw_f12_ask : Yv yX12_ask RX12 12 cX12_ask 5 (some .int) 1 := ⟨wi_f12_ask, wse_f12_ask, in_X12, wc_f12_ask, by decide +kernel, Nat.le_of_ble_eq_true rfl, _, rfl, rfl⟩
theorem wl_152 : Cond.methodLink RL 152 yX12_ask ∈ wU := wU_mem (List.mem_append_right _ (List.mem_append_right _ (List.mem_append_right _ (List.mem_append_right _ (List.mem_append_right _ (List.mem_append_right _ (List.mem_append_right _ (List.mem_append_right _ (List.mem_append_right _ (List.mem_of_getElem? (l := tables_1_9) (i := 1) (by decide +kernel))))))))))) (by decide +kernel)
theorem case_ask (C : Cl x) (hi : i + 6 ≤ lxL x) (hcs : cells ≤ room_1.cells ∧ slots ≤ room_1.slots) (R : RR S t hc hm) (Kk : ∀ S t hc' hm', RR S t hc' hm' → LG x 1806 (Vs x i) [] hc' hm' f cells slots) : LG x 1329 (Vs x i) [] hc hm f cells slots := by
  obtain ⟨S', t', r, c', m', e1, e2, R'⟩ := r_ask R (lxX x (i + 1))
  refine l_aload C dL_law_1329 rfl (q := 3) rfl ?_
  refine l_arg (j := 1) (n := 1) C hi (by decide) rfl dL_law_1330 dL_law_1331 dL_law_1333 dL_law_1334 dL_law_1335 ?_
  refine l_callC (As := [.int (lxX x (i + 1))]) (n := 1) C dL_law_1336 wl_149 yw_f11_ask ⟨rfl, rfl⟩ ⟨Nat.le_of_ble_eq_true rfl, Nat.le_of_ble_eq_true rfl⟩ hcs rfl rfl (fun _ => rfl) (Nat.le_of_ble_eq_true rfl) rfl (ok_f11_ask (K := fun z => z = (r, c')) _ hc ⟨_, e1, rfl⟩) (fun _ _ ad hp => pw_int ad hp) (fun r1 h1 hp1 => ?_)
  obtain ⟨v1, rfl, hv1⟩ := hp1
  obtain ⟨rfl, rfl⟩ := Prod.mk.inj hv1
  refine l_st (st' := [.int _]) rfl ?_
  refine l_aload C dL_law_1339 rfl (q := 2) rfl ?_
  refine l_arg (j := 1) (n := 1) C hi (by decide) rfl dL_law_1340 dL_law_1341 dL_law_1343 dL_law_1344 dL_law_1345 ?_
  refine l_callM (As := [.int (lxX x (i + 1))]) (n := 1) C dL_law_1346 wl_152 yw_f12_ask ⟨rfl, rfl⟩ ⟨Nat.le_of_ble_eq_true rfl, Nat.le_of_ble_eq_true rfl⟩ hcs rfl rfl (fun _ => rfl) (Nat.le_of_ble_eq_true rfl) rfl (ok_f12_ask (K := fun z => z = (_, m')) _ hm ⟨_, e2, rfl⟩) (fun _ _ ad hp => pw_int ad hp) (fun r1 h1 hp1 => ?_)
  obtain ⟨v2, rfl, hv2⟩ := hp1
  obtain ⟨rfl, rfl⟩ := Prod.mk.inj hv2
  refine l_st (st' := [.int _, .int _]) rfl ?_
  refine l_eq (tgt := 1806) C dL_law_1349 (by decide) rfl ?_
  exact Kk _ _ _ _ R'
theorem wi_f11_stay : Cond.instanceMethod yX11_stay ∈ wU := wU_mem (List.mem_append_right _ (List.mem_append_right _ (List.mem_append_right _ (List.mem_append_right _ (List.mem_append_right _ (List.mem_append_left _ (List.mem_of_getElem? (l := tables_1_5) (i := 62) (by decide +kernel)))))))) (by decide +kernel)
theorem wc_f11_stay : Cond.code yX11_stay cX11_stay 4 (some .int) ∈ wU := wU_mem (List.mem_append_right _ (List.mem_append_right _ (List.mem_append_right _ (List.mem_append_right _ (List.mem_append_right _ (List.mem_append_left _ (List.mem_of_getElem? (l := tables_1_5) (i := 64) (by decide +kernel)))))))) (by decide +kernel)
theorem wse_f11_stay : Cond.selects RX11 yX11_stay yX11_stay ∈ wU := wU_mem (List.mem_append_right _ (List.mem_append_right _ (List.mem_append_right _ (List.mem_append_right _ (List.mem_append_right _ (List.mem_append_left _ (List.mem_of_getElem? (l := tables_1_5) (i := 63) (by decide +kernel)))))))) (by decide +kernel)
theorem yw_f11_stay : Yv yX11_stay RX11 11 cX11_stay 4 (some .int) 1 := ⟨wi_f11_stay, wse_f11_stay, in_X11, wc_f11_stay, by decide +kernel, Nat.le_of_ble_eq_true rfl, _, rfl, rfl⟩
theorem wl_153 : Cond.methodLink RL 153 yX11_stay ∈ wU := wU_mem (List.mem_append_right _ (List.mem_append_right _ (List.mem_append_right _ (List.mem_append_right _ (List.mem_append_right _ (List.mem_append_left _ (List.mem_of_getElem? (l := tables_1_5) (i := 61) (by decide +kernel)))))))) (by decide +kernel)
theorem wi_f12_stay : Cond.instanceMethod yX12_stay ∈ wU := wU_mem (List.mem_append_right _ (List.mem_append_right _ (List.mem_append_right _ (List.mem_append_right _ (List.mem_append_right _ (List.mem_append_right _ (List.mem_append_right _ (List.mem_append_right _ (List.mem_append_left _ (List.mem_of_getElem? (l := tables_1_8) (i := 168) (by decide +kernel))))))))))) (by decide +kernel)
theorem wc_f12_stay : Cond.code yX12_stay cX12_stay 5 (some .int) ∈ wU := wU_mem (List.mem_append_right _ (List.mem_append_right _ (List.mem_append_right _ (List.mem_append_right _ (List.mem_append_right _ (List.mem_append_right _ (List.mem_append_right _ (List.mem_append_right _ (List.mem_append_left _ (List.mem_of_getElem? (l := tables_1_8) (i := 170) (by decide +kernel))))))))))) (by decide +kernel)
theorem wse_f12_stay : Cond.selects RX12 yX12_stay yX12_stay ∈ wU := wU_mem (List.mem_append_right _ (List.mem_append_right _ (List.mem_append_right _ (List.mem_append_right _ (List.mem_append_right _ (List.mem_append_right _ (List.mem_append_right _ (List.mem_append_right _ (List.mem_append_left _ (List.mem_of_getElem? (l := tables_1_8) (i := 169) (by decide +kernel))))))))))) (by decide +kernel)
theorem yw_f12_stay : Yv yX12_stay RX12 12 cX12_stay 5 (some .int) 1 := ⟨wi_f12_stay, wse_f12_stay, in_X12, wc_f12_stay, by decide +kernel, Nat.le_of_ble_eq_true rfl, _, rfl, rfl⟩
theorem wl_156 : Cond.methodLink RL 156 yX12_stay ∈ wU := wU_mem (List.mem_append_right _ (List.mem_append_right _ (List.mem_append_right _ (List.mem_append_right _ (List.mem_append_right _ (List.mem_append_right _ (List.mem_append_right _ (List.mem_append_right _ (List.mem_append_left _ (List.mem_of_getElem? (l := tables_1_8) (i := 167) (by decide +kernel))))))))))) (by decide +kernel)
theorem case_stay (C : Cl x) (hi : i + 6 ≤ lxL x) (hcs : cells ≤ room_1.cells ∧ slots ≤ room_1.slots) (R : RR S t hc hm) (Kk : ∀ S t hc' hm', RR S t hc' hm' → LG x 1806 (Vs x i) [] hc' hm' f cells slots) : LG x 1354 (Vs x i) [] hc hm f cells slots := by
  obtain ⟨r, m', e1, e2, R'⟩ := r_stay R (lxX x (i + 1))
  refine l_aload C dL_law_1354 rfl (q := 3) rfl ?_
  refine l_arg (j := 1) (n := 1) C hi (by decide) rfl dL_law_1355 dL_law_1356 dL_law_1358 dL_law_1359 dL_law_1360 ?_
  refine l_callC (As := [.int (lxX x (i + 1))]) (n := 1) C dL_law_1361 wl_153 yw_f11_stay ⟨rfl, rfl⟩ ⟨Nat.le_of_ble_eq_true rfl, Nat.le_of_ble_eq_true rfl⟩ hcs rfl rfl (fun _ => rfl) (Nat.le_of_ble_eq_true rfl) rfl (ok_f11_stay (K := fun z => z = r) _ hc ⟨_, e1, rfl⟩) (fun _ _ ad hp => ps_int ad hp) (fun r1 h1 hp1 => ?_)
  obtain ⟨v1, rfl, rfl, rfl⟩ := hp1
  refine l_st (st' := [.int _]) rfl ?_
  refine l_aload C dL_law_1364 rfl (q := 2) rfl ?_
  refine l_arg (j := 1) (n := 1) C hi (by decide) rfl dL_law_1365 dL_law_1366 dL_law_1368 dL_law_1369 dL_law_1370 ?_
  refine l_callM (As := [.int (lxX x (i + 1))]) (n := 1) C dL_law_1371 wl_156 yw_f12_stay ⟨rfl, rfl⟩ ⟨Nat.le_of_ble_eq_true rfl, Nat.le_of_ble_eq_true rfl⟩ hcs rfl rfl (fun _ => rfl) (Nat.le_of_ble_eq_true rfl) rfl (ok_f12_stay (K := fun z => z = (_, m')) _ hm ⟨_, e2, rfl⟩) (fun _ _ ad hp => pw_int ad hp) (fun r1 h1 hp1 => ?_)
  obtain ⟨v2, rfl, hv2⟩ := hp1
  obtain ⟨rfl, rfl⟩ := Prod.mk.inj hv2
  refine l_st (st' := [.int _, .int _]) rfl ?_
  refine l_eq (tgt := 1806) C dL_law_1374 (by decide) rfl ?_
  exact Kk _ _ _ _ R'
theorem wi_f11_line : Cond.instanceMethod yX11_line ∈ wU := wU_mem (List.mem_append_right _ (List.mem_append_right _ (List.mem_append_right _ (List.mem_append_right _ (List.mem_append_right _ (List.mem_append_left _ (List.mem_of_getElem? (l := tables_1_5) (i := 66) (by decide +kernel)))))))) (by decide +kernel)
theorem wc_f11_line : Cond.code yX11_line cX11_line 2 (some .int) ∈ wU := wU_mem (List.mem_append_right _ (List.mem_append_right _ (List.mem_append_right _ (List.mem_append_right _ (List.mem_append_right _ (List.mem_append_left _ (List.mem_of_getElem? (l := tables_1_5) (i := 68) (by decide +kernel)))))))) (by decide +kernel)
theorem wse_f11_line : Cond.selects RX11 yX11_line yX11_line ∈ wU := wU_mem (List.mem_append_right _ (List.mem_append_right _ (List.mem_append_right _ (List.mem_append_right _ (List.mem_append_right _ (List.mem_append_left _ (List.mem_of_getElem? (l := tables_1_5) (i := 67) (by decide +kernel)))))))) (by decide +kernel)
theorem yw_f11_line : Yv yX11_line RX11 11 cX11_line 2 (some .int) 1 := ⟨wi_f11_line, wse_f11_line, in_X11, wc_f11_line, by decide +kernel, Nat.le_of_ble_eq_true rfl, _, rfl, rfl⟩
theorem wl_157 : Cond.methodLink RL 157 yX11_line ∈ wU := wU_mem (List.mem_append_right _ (List.mem_append_right _ (List.mem_append_right _ (List.mem_append_right _ (List.mem_append_right _ (List.mem_append_left _ (List.mem_of_getElem? (l := tables_1_5) (i := 65) (by decide +kernel)))))))) (by decide +kernel)
theorem wi_f12_line : Cond.instanceMethod yX12_line ∈ wU := wU_mem (List.mem_append_right _ (List.mem_append_right _ (List.mem_append_right _ (List.mem_append_right _ (List.mem_append_right _ (List.mem_append_right _ (List.mem_append_right _ (List.mem_append_right _ (List.mem_append_left _ (List.mem_of_getElem? (l := tables_1_8) (i := 144) (by decide +kernel))))))))))) (by decide +kernel)
theorem wc_f12_line : Cond.code yX12_line cX12_line 4 (some .int) ∈ wU := wU_mem (List.mem_append_right _ (List.mem_append_right _ (List.mem_append_right _ (List.mem_append_right _ (List.mem_append_right _ (List.mem_append_right _ (List.mem_append_right _ (List.mem_append_right _ (List.mem_append_left _ (List.mem_of_getElem? (l := tables_1_8) (i := 146) (by decide +kernel))))))))))) (by decide +kernel)
theorem wse_f12_line : Cond.selects RX12 yX12_line yX12_line ∈ wU := wU_mem (List.mem_append_right _ (List.mem_append_right _ (List.mem_append_right _ (List.mem_append_right _ (List.mem_append_right _ (List.mem_append_right _ (List.mem_append_right _ (List.mem_append_right _ (List.mem_append_left _ (List.mem_of_getElem? (l := tables_1_8) (i := 145) (by decide +kernel))))))))))) (by decide +kernel)
theorem yw_f12_line : Yv yX12_line RX12 12 cX12_line 4 (some .int) 1 := ⟨wi_f12_line, wse_f12_line, in_X12, wc_f12_line, by decide +kernel, Nat.le_of_ble_eq_true rfl, _, rfl, rfl⟩
theorem wl_160 : Cond.methodLink RL 160 yX12_line ∈ wU := wU_mem (List.mem_append_right _ (List.mem_append_right _ (List.mem_append_right _ (List.mem_append_right _ (List.mem_append_right _ (List.mem_append_right _ (List.mem_append_right _ (List.mem_append_right _ (List.mem_append_left _ (List.mem_of_getElem? (l := tables_1_8) (i := 143) (by decide +kernel))))))))))) (by decide +kernel)
theorem case_line (C : Cl x) (hi : i + 6 ≤ lxL x) (hcs : cells ≤ room_1.cells ∧ slots ≤ room_1.slots) (R : RR S t hc hm) (Kk : ∀ S t hc' hm', RR S t hc' hm' → LG x 1806 (Vs x i) [] hc' hm' f cells slots) : LG x 1379 (Vs x i) [] hc hm f cells slots := by
  obtain ⟨S', t', r, c', m', e1, e2, R'⟩ := r_line R (lxX x (i + 1))
  refine l_aload C dL_law_1379 rfl (q := 3) rfl ?_
  refine l_arg (j := 1) (n := 1) C hi (by decide) rfl dL_law_1380 dL_law_1381 dL_law_1383 dL_law_1384 dL_law_1385 ?_
  refine l_callC (As := [.int (lxX x (i + 1))]) (n := 1) C dL_law_1386 wl_157 yw_f11_line ⟨rfl, rfl⟩ ⟨Nat.le_of_ble_eq_true rfl, Nat.le_of_ble_eq_true rfl⟩ hcs rfl rfl (fun _ => rfl) (Nat.le_of_ble_eq_true rfl) rfl (ok_f11_line (K := fun z => z = (r, c')) _ hc ⟨_, e1, rfl⟩) (fun _ _ ad hp => pw_int ad hp) (fun r1 h1 hp1 => ?_)
  obtain ⟨v1, rfl, hv1⟩ := hp1
  obtain ⟨rfl, rfl⟩ := Prod.mk.inj hv1
  refine l_st (st' := [.int _]) rfl ?_
  refine l_aload C dL_law_1389 rfl (q := 2) rfl ?_
  refine l_arg (j := 1) (n := 1) C hi (by decide) rfl dL_law_1390 dL_law_1391 dL_law_1393 dL_law_1394 dL_law_1395 ?_
  refine l_callM (As := [.int (lxX x (i + 1))]) (n := 1) C dL_law_1396 wl_160 yw_f12_line ⟨rfl, rfl⟩ ⟨Nat.le_of_ble_eq_true rfl, Nat.le_of_ble_eq_true rfl⟩ hcs rfl rfl (fun _ => rfl) (Nat.le_of_ble_eq_true rfl) rfl (ok_f12_line (K := fun z => z = (_, m')) _ hm ⟨_, e2, rfl⟩) (fun _ _ ad hp => pw_int ad hp) (fun r1 h1 hp1 => ?_)
  obtain ⟨v2, rfl, hv2⟩ := hp1
  obtain ⟨rfl, rfl⟩ := Prod.mk.inj hv2
  refine l_st (st' := [.int _, .int _]) rfl ?_
  refine l_eq (tgt := 1806) C dL_law_1399 (by decide) rfl ?_
  exact Kk _ _ _ _ R'
theorem wi_f11_quote : Cond.instanceMethod yX11_quote ∈ wU := wU_mem (List.mem_append_right _ (List.mem_append_right _ (List.mem_append_right _ (List.mem_append_right _ (List.mem_append_right _ (List.mem_append_left _ (List.mem_of_getElem? (l := tables_1_5) (i := 78) (by decide +kernel)))))))) (by decide +kernel)
theorem wc_f11_quote : Cond.code yX11_quote cX11_quote 3 (some .int) ∈ wU := wU_mem (List.mem_append_right _ (List.mem_append_right _ (List.mem_append_right _ (List.mem_append_right _ (List.mem_append_right _ (List.mem_append_left _ (List.mem_of_getElem? (l := tables_1_5) (i := 80) (by decide +kernel)))))))) (by decide +kernel)
theorem wse_f11_quote : Cond.selects RX11 yX11_quote yX11_quote ∈ wU := wU_mem (List.mem_append_right _ (List.mem_append_right _ (List.mem_append_right _ (List.mem_append_right _ (List.mem_append_right _ (List.mem_append_left _ (List.mem_of_getElem? (l := tables_1_5) (i := 79) (by decide +kernel)))))))) (by decide +kernel)
theorem yw_f11_quote : Yv yX11_quote RX11 11 cX11_quote 3 (some .int) 2 := ⟨wi_f11_quote, wse_f11_quote, in_X11, wc_f11_quote, by decide +kernel, Nat.le_of_ble_eq_true rfl, _, rfl, rfl⟩
theorem wl_161 : Cond.methodLink RL 161 yX11_quote ∈ wU := wU_mem (List.mem_append_right _ (List.mem_append_right _ (List.mem_append_right _ (List.mem_append_right _ (List.mem_append_right _ (List.mem_append_left _ (List.mem_of_getElem? (l := tables_1_5) (i := 77) (by decide +kernel)))))))) (by decide +kernel)
theorem wi_f12_quote : Cond.instanceMethod yX12_quote ∈ wU := wU_mem (List.mem_append_right _ (List.mem_append_right _ (List.mem_append_right _ (List.mem_append_right _ (List.mem_append_right _ (List.mem_append_right _ (List.mem_append_right _ (List.mem_append_right _ (List.mem_append_left _ (List.mem_of_getElem? (l := tables_1_8) (i := 152) (by decide +kernel))))))))))) (by decide +kernel)
theorem wc_f12_quote : Cond.code yX12_quote cX12_quote 7 (some .int) ∈ wU := wU_mem (List.mem_append_right _ (List.mem_append_right _ (List.mem_append_right _ (List.mem_append_right _ (List.mem_append_right _ (List.mem_append_right _ (List.mem_append_right _ (List.mem_append_right _ (List.mem_append_left _ (List.mem_of_getElem? (l := tables_1_8) (i := 154) (by decide +kernel))))))))))) (by decide +kernel)
theorem wse_f12_quote : Cond.selects RX12 yX12_quote yX12_quote ∈ wU := wU_mem (List.mem_append_right _ (List.mem_append_right _ (List.mem_append_right _ (List.mem_append_right _ (List.mem_append_right _ (List.mem_append_right _ (List.mem_append_right _ (List.mem_append_right _ (List.mem_append_left _ (List.mem_of_getElem? (l := tables_1_8) (i := 153) (by decide +kernel))))))))))) (by decide +kernel)
theorem yw_f12_quote : Yv yX12_quote RX12 12 cX12_quote 7 (some .int) 2 := ⟨wi_f12_quote, wse_f12_quote, in_X12, wc_f12_quote, by decide +kernel, Nat.le_of_ble_eq_true rfl, _, rfl, rfl⟩
theorem wl_164 : Cond.methodLink RL 164 yX12_quote ∈ wU := wU_mem (List.mem_append_right _ (List.mem_append_right _ (List.mem_append_right _ (List.mem_append_right _ (List.mem_append_right _ (List.mem_append_right _ (List.mem_append_right _ (List.mem_append_right _ (List.mem_append_left _ (List.mem_of_getElem? (l := tables_1_8) (i := 151) (by decide +kernel))))))))))) (by decide +kernel)
theorem case_quote (C : Cl x) (hi : i + 6 ≤ lxL x) (hcs : cells ≤ room_1.cells ∧ slots ≤ room_1.slots) (R : RR S t hc hm) (Kk : ∀ S t hc' hm', RR S t hc' hm' → LG x 1806 (Vs x i) [] hc' hm' f cells slots) : LG x 1404 (Vs x i) [] hc hm f cells slots := by
  obtain ⟨S', t', r, c', m', e1, e2, R'⟩ := r_quote R (lxX x (i + 1)) (lxX x (i + 2))
  refine l_aload C dL_law_1404 rfl (q := 3) rfl ?_
  refine l_arg (j := 1) (n := 1) C hi (by decide) rfl dL_law_1405 dL_law_1406 dL_law_1408 dL_law_1409 dL_law_1410 ?_
  refine l_arg (j := 2) (n := 2) C hi (by decide) rfl dL_law_1411 dL_law_1412 dL_law_1414 dL_law_1415 dL_law_1416 ?_
  refine l_callC (As := [.int (lxX x (i + 1)), .int (lxX x (i + 2))]) (n := 2) C dL_law_1417 wl_161 yw_f11_quote ⟨rfl, rfl⟩ ⟨Nat.le_of_ble_eq_true rfl, Nat.le_of_ble_eq_true rfl⟩ hcs rfl rfl (fun _ => rfl) (Nat.le_of_ble_eq_true rfl) rfl (ok_f11_quote (K := fun z => z = (r, c')) _ _ hc ⟨_, e1, rfl⟩) (fun _ _ ad hp => pw_int ad hp) (fun r1 h1 hp1 => ?_)
  obtain ⟨v1, rfl, hv1⟩ := hp1
  obtain ⟨rfl, rfl⟩ := Prod.mk.inj hv1
  refine l_st (st' := [.int _]) rfl ?_
  refine l_aload C dL_law_1420 rfl (q := 2) rfl ?_
  refine l_arg (j := 1) (n := 1) C hi (by decide) rfl dL_law_1421 dL_law_1422 dL_law_1424 dL_law_1425 dL_law_1426 ?_
  refine l_arg (j := 2) (n := 2) C hi (by decide) rfl dL_law_1427 dL_law_1428 dL_law_1430 dL_law_1431 dL_law_1432 ?_
  refine l_callM (As := [.int (lxX x (i + 1)), .int (lxX x (i + 2))]) (n := 2) C dL_law_1433 wl_164 yw_f12_quote ⟨rfl, rfl⟩ ⟨Nat.le_of_ble_eq_true rfl, Nat.le_of_ble_eq_true rfl⟩ hcs rfl rfl (fun _ => rfl) (Nat.le_of_ble_eq_true rfl) rfl (ok_f12_quote (K := fun z => z = (_, m')) _ _ hm ⟨_, e2, rfl⟩) (fun _ _ ad hp => pw_int ad hp) (fun r1 h1 hp1 => ?_)
  obtain ⟨v2, rfl, hv2⟩ := hp1
  obtain ⟨rfl, rfl⟩ := Prod.mk.inj hv2
  refine l_st (st' := [.int _, .int _]) rfl ?_
  refine l_eq (tgt := 1806) C dL_law_1436 (by decide) rfl ?_
  exact Kk _ _ _ _ R'
theorem wi_f11_merriest : Cond.instanceMethod yX11_merriest ∈ wU := wU_mem (List.mem_append_right _ (List.mem_append_right _ (List.mem_append_right _ (List.mem_append_right _ (List.mem_append_right _ (List.mem_append_left _ (List.mem_of_getElem? (l := tables_1_5) (i := 86) (by decide +kernel)))))))) (by decide +kernel)
theorem wc_f11_merriest : Cond.code yX11_merriest cX11_merriest 4 (some .int) ∈ wU := wU_mem (List.mem_append_right _ (List.mem_append_right _ (List.mem_append_right _ (List.mem_append_right _ (List.mem_append_right _ (List.mem_append_left _ (List.mem_of_getElem? (l := tables_1_5) (i := 88) (by decide +kernel)))))))) (by decide +kernel)
theorem wse_f11_merriest : Cond.selects RX11 yX11_merriest yX11_merriest ∈ wU := wU_mem (List.mem_append_right _ (List.mem_append_right _ (List.mem_append_right _ (List.mem_append_right _ (List.mem_append_right _ (List.mem_append_left _ (List.mem_of_getElem? (l := tables_1_5) (i := 87) (by decide +kernel)))))))) (by decide +kernel)
theorem yw_f11_merriest : Yv yX11_merriest RX11 11 cX11_merriest 4 (some .int) 0 := ⟨wi_f11_merriest, wse_f11_merriest, in_X11, wc_f11_merriest, by decide +kernel, Nat.le_of_ble_eq_true rfl, _, rfl, rfl⟩
theorem wl_165 : Cond.methodLink RL 165 yX11_merriest ∈ wU := wU_mem (List.mem_append_right _ (List.mem_append_right _ (List.mem_append_right _ (List.mem_append_right _ (List.mem_append_right _ (List.mem_append_left _ (List.mem_of_getElem? (l := tables_1_5) (i := 85) (by decide +kernel)))))))) (by decide +kernel)
theorem wi_f12_merriest : Cond.instanceMethod yX12_merriest ∈ wU := wU_mem (List.mem_append_right _ (List.mem_append_right _ (List.mem_append_right _ (List.mem_append_right _ (List.mem_append_right _ (List.mem_append_right _ (List.mem_append_right _ (List.mem_append_right _ (List.mem_append_left _ (List.mem_of_getElem? (l := tables_1_8) (i := 156) (by decide +kernel))))))))))) (by decide +kernel)
theorem wc_f12_merriest : Cond.code yX12_merriest cX12_merriest 3 (some .int) ∈ wU := wU_mem (List.mem_append_right _ (List.mem_append_right _ (List.mem_append_right _ (List.mem_append_right _ (List.mem_append_right _ (List.mem_append_right _ (List.mem_append_right _ (List.mem_append_right _ (List.mem_append_left _ (List.mem_of_getElem? (l := tables_1_8) (i := 158) (by decide +kernel))))))))))) (by decide +kernel)
theorem wse_f12_merriest : Cond.selects RX12 yX12_merriest yX12_merriest ∈ wU := wU_mem (List.mem_append_right _ (List.mem_append_right _ (List.mem_append_right _ (List.mem_append_right _ (List.mem_append_right _ (List.mem_append_right _ (List.mem_append_right _ (List.mem_append_right _ (List.mem_append_left _ (List.mem_of_getElem? (l := tables_1_8) (i := 157) (by decide +kernel))))))))))) (by decide +kernel)
theorem yw_f12_merriest : Yv yX12_merriest RX12 12 cX12_merriest 3 (some .int) 0 := ⟨wi_f12_merriest, wse_f12_merriest, in_X12, wc_f12_merriest, by decide +kernel, Nat.le_of_ble_eq_true rfl, _, rfl, rfl⟩
theorem wl_168 : Cond.methodLink RL 168 yX12_merriest ∈ wU := wU_mem (List.mem_append_right _ (List.mem_append_right _ (List.mem_append_right _ (List.mem_append_right _ (List.mem_append_right _ (List.mem_append_right _ (List.mem_append_right _ (List.mem_append_right _ (List.mem_append_left _ (List.mem_of_getElem? (l := tables_1_8) (i := 155) (by decide +kernel))))))))))) (by decide +kernel)
theorem case_merriest (C : Cl x) (hi : i + 6 ≤ lxL x) (hcs : cells ≤ room_1.cells ∧ slots ≤ room_1.slots) (R : RR S t hc hm) (Kk : ∀ S t hc' hm', RR S t hc' hm' → LG x 1806 (Vs x i) [] hc' hm' f cells slots) : LG x 1441 (Vs x i) [] hc hm f cells slots := by
  obtain ⟨r, m', e1, e2, R'⟩ := r_merriest R
  refine l_aload C dL_law_1441 rfl (q := 3) rfl ?_
  refine l_callC (As := []) (n := 0) C dL_law_1442 wl_165 yw_f11_merriest ⟨rfl, rfl⟩ ⟨Nat.le_of_ble_eq_true rfl, Nat.le_of_ble_eq_true rfl⟩ hcs rfl rfl (fun _ => rfl) (Nat.le_of_ble_eq_true rfl) rfl (ok_f11_merriest (K := fun z => z = r)  hc ⟨_, e1, rfl⟩) (fun _ _ ad hp => ps_int ad hp) (fun r1 h1 hp1 => ?_)
  obtain ⟨v1, rfl, rfl, rfl⟩ := hp1
  refine l_st (st' := [.int _]) rfl ?_
  refine l_aload C dL_law_1445 rfl (q := 2) rfl ?_
  refine l_callM (As := []) (n := 0) C dL_law_1446 wl_168 yw_f12_merriest ⟨rfl, rfl⟩ ⟨Nat.le_of_ble_eq_true rfl, Nat.le_of_ble_eq_true rfl⟩ hcs rfl rfl (fun _ => rfl) (Nat.le_of_ble_eq_true rfl) rfl (ok_f12_merriest (K := fun z => z = (_, m'))  hm ⟨_, e2, rfl⟩) (fun _ _ ad hp => pw_int ad hp) (fun r1 h1 hp1 => ?_)
  obtain ⟨v2, rfl, hv2⟩ := hp1
  obtain ⟨rfl, rfl⟩ := Prod.mk.inj hv2
  refine l_st (st' := [.int _, .int _]) rfl ?_
  refine l_eq (tgt := 1806) C dL_law_1449 (by decide) rfl ?_
  exact Kk _ _ _ _ R'
theorem wi_f11_silent : Cond.instanceMethod yX11_silent ∈ wU := wU_mem (List.mem_append_right _ (List.mem_append_right _ (List.mem_append_right _ (List.mem_append_right _ (List.mem_append_right _ (List.mem_append_left _ (List.mem_of_getElem? (l := tables_1_5) (i := 90) (by decide +kernel)))))))) (by decide +kernel)
theorem wc_f11_silent : Cond.code yX11_silent cX11_silent 3 (some .int) ∈ wU := wU_mem (List.mem_append_right _ (List.mem_append_right _ (List.mem_append_right _ (List.mem_append_right _ (List.mem_append_right _ (List.mem_append_left _ (List.mem_of_getElem? (l := tables_1_5) (i := 92) (by decide +kernel)))))))) (by decide +kernel)
theorem wse_f11_silent : Cond.selects RX11 yX11_silent yX11_silent ∈ wU := wU_mem (List.mem_append_right _ (List.mem_append_right _ (List.mem_append_right _ (List.mem_append_right _ (List.mem_append_right _ (List.mem_append_left _ (List.mem_of_getElem? (l := tables_1_5) (i := 91) (by decide +kernel)))))))) (by decide +kernel)
theorem yw_f11_silent : Yv yX11_silent RX11 11 cX11_silent 3 (some .int) 0 := ⟨wi_f11_silent, wse_f11_silent, in_X11, wc_f11_silent, by decide +kernel, Nat.le_of_ble_eq_true rfl, _, rfl, rfl⟩
theorem wl_169 : Cond.methodLink RL 169 yX11_silent ∈ wU := wU_mem (List.mem_append_right _ (List.mem_append_right _ (List.mem_append_right _ (List.mem_append_right _ (List.mem_append_right _ (List.mem_append_left _ (List.mem_of_getElem? (l := tables_1_5) (i := 89) (by decide +kernel)))))))) (by decide +kernel)
theorem wi_f12_silent : Cond.instanceMethod yX12_silent ∈ wU := wU_mem (List.mem_append_right _ (List.mem_append_right _ (List.mem_append_right _ (List.mem_append_right _ (List.mem_append_right _ (List.mem_append_right _ (List.mem_append_right _ (List.mem_append_right _ (List.mem_append_left _ (List.mem_of_getElem? (l := tables_1_8) (i := 160) (by decide +kernel))))))))))) (by decide +kernel)
theorem wc_f12_silent : Cond.code yX12_silent cX12_silent 3 (some .int) ∈ wU := wU_mem (List.mem_append_right _ (List.mem_append_right _ (List.mem_append_right _ (List.mem_append_right _ (List.mem_append_right _ (List.mem_append_right _ (List.mem_append_right _ (List.mem_append_right _ (List.mem_append_left _ (List.mem_of_getElem? (l := tables_1_8) (i := 162) (by decide +kernel))))))))))) (by decide +kernel)
theorem wse_f12_silent : Cond.selects RX12 yX12_silent yX12_silent ∈ wU := wU_mem (List.mem_append_right _ (List.mem_append_right _ (List.mem_append_right _ (List.mem_append_right _ (List.mem_append_right _ (List.mem_append_right _ (List.mem_append_right _ (List.mem_append_right _ (List.mem_append_left _ (List.mem_of_getElem? (l := tables_1_8) (i := 161) (by decide +kernel))))))))))) (by decide +kernel)
theorem yw_f12_silent : Yv yX12_silent RX12 12 cX12_silent 3 (some .int) 0 := ⟨wi_f12_silent, wse_f12_silent, in_X12, wc_f12_silent, by decide +kernel, Nat.le_of_ble_eq_true rfl, _, rfl, rfl⟩
theorem wl_172 : Cond.methodLink RL 172 yX12_silent ∈ wU := wU_mem (List.mem_append_right _ (List.mem_append_right _ (List.mem_append_right _ (List.mem_append_right _ (List.mem_append_right _ (List.mem_append_right _ (List.mem_append_right _ (List.mem_append_right _ (List.mem_append_left _ (List.mem_of_getElem? (l := tables_1_8) (i := 159) (by decide +kernel))))))))))) (by decide +kernel)
theorem case_silent (C : Cl x) (hi : i + 6 ≤ lxL x) (hcs : cells ≤ room_1.cells ∧ slots ≤ room_1.slots) (R : RR S t hc hm) (Kk : ∀ S t hc' hm', RR S t hc' hm' → LG x 1806 (Vs x i) [] hc' hm' f cells slots) : LG x 1454 (Vs x i) [] hc hm f cells slots := by
  obtain ⟨r, m', e1, e2, R'⟩ := r_silent R
  refine l_aload C dL_law_1454 rfl (q := 3) rfl ?_
  refine l_callC (As := []) (n := 0) C dL_law_1455 wl_169 yw_f11_silent ⟨rfl, rfl⟩ ⟨Nat.le_of_ble_eq_true rfl, Nat.le_of_ble_eq_true rfl⟩ hcs rfl rfl (fun _ => rfl) (Nat.le_of_ble_eq_true rfl) rfl (ok_f11_silent (K := fun z => z = r)  hc ⟨_, e1, rfl⟩) (fun _ _ ad hp => ps_int ad hp) (fun r1 h1 hp1 => ?_)
  obtain ⟨v1, rfl, rfl, rfl⟩ := hp1
  refine l_st (st' := [.int _]) rfl ?_
  refine l_aload C dL_law_1458 rfl (q := 2) rfl ?_
  refine l_callM (As := []) (n := 0) C dL_law_1459 wl_172 yw_f12_silent ⟨rfl, rfl⟩ ⟨Nat.le_of_ble_eq_true rfl, Nat.le_of_ble_eq_true rfl⟩ hcs rfl rfl (fun _ => rfl) (Nat.le_of_ble_eq_true rfl) rfl (ok_f12_silent (K := fun z => z = (_, m'))  hm ⟨_, e2, rfl⟩) (fun _ _ ad hp => pw_int ad hp) (fun r1 h1 hp1 => ?_)
  obtain ⟨v2, rfl, hv2⟩ := hp1
  obtain ⟨rfl, rfl⟩ := Prod.mk.inj hv2
  refine l_st (st' := [.int _, .int _]) rfl ?_
  refine l_eq (tgt := 1806) C dL_law_1462 (by decide) rfl ?_
  exact Kk _ _ _ _ R'
theorem wi_f11_runDown : Cond.instanceMethod yX11_runDown ∈ wU := wU_mem (List.mem_append_right _ (List.mem_append_right _ (List.mem_append_right _ (List.mem_append_right _ (List.mem_append_right _ (List.mem_append_left _ (List.mem_of_getElem? (l := tables_1_5) (i := 94) (by decide +kernel)))))))) (by decide +kernel)
theorem wc_f11_runDown : Cond.code yX11_runDown cX11_runDown 4 (some .int) ∈ wU := wU_mem (List.mem_append_right _ (List.mem_append_right _ (List.mem_append_right _ (List.mem_append_right _ (List.mem_append_right _ (List.mem_append_left _ (List.mem_of_getElem? (l := tables_1_5) (i := 96) (by decide +kernel)))))))) (by decide +kernel)
theorem wse_f11_runDown : Cond.selects RX11 yX11_runDown yX11_runDown ∈ wU := wU_mem (List.mem_append_right _ (List.mem_append_right _ (List.mem_append_right _ (List.mem_append_right _ (List.mem_append_right _ (List.mem_append_left _ (List.mem_of_getElem? (l := tables_1_5) (i := 95) (by decide +kernel)))))))) (by decide +kernel)
theorem yw_f11_runDown : Yv yX11_runDown RX11 11 cX11_runDown 4 (some .int) 1 := ⟨wi_f11_runDown, wse_f11_runDown, in_X11, wc_f11_runDown, by decide +kernel, Nat.le_of_ble_eq_true rfl, _, rfl, rfl⟩
theorem wl_173 : Cond.methodLink RL 173 yX11_runDown ∈ wU := wU_mem (List.mem_append_right _ (List.mem_append_right _ (List.mem_append_right _ (List.mem_append_right _ (List.mem_append_right _ (List.mem_append_left _ (List.mem_of_getElem? (l := tables_1_5) (i := 93) (by decide +kernel)))))))) (by decide +kernel)
theorem wi_f12_runDown : Cond.instanceMethod yX12_runDown ∈ wU := wU_mem (List.mem_append_right _ (List.mem_append_right _ (List.mem_append_right _ (List.mem_append_right _ (List.mem_append_right _ (List.mem_append_right _ (List.mem_append_right _ (List.mem_append_right _ (List.mem_append_left _ (List.mem_of_getElem? (l := tables_1_8) (i := 164) (by decide +kernel))))))))))) (by decide +kernel)
theorem wc_f12_runDown : Cond.code yX12_runDown cX12_runDown 4 (some .int) ∈ wU := wU_mem (List.mem_append_right _ (List.mem_append_right _ (List.mem_append_right _ (List.mem_append_right _ (List.mem_append_right _ (List.mem_append_right _ (List.mem_append_right _ (List.mem_append_right _ (List.mem_append_left _ (List.mem_of_getElem? (l := tables_1_8) (i := 166) (by decide +kernel))))))))))) (by decide +kernel)
theorem wse_f12_runDown : Cond.selects RX12 yX12_runDown yX12_runDown ∈ wU := wU_mem (List.mem_append_right _ (List.mem_append_right _ (List.mem_append_right _ (List.mem_append_right _ (List.mem_append_right _ (List.mem_append_right _ (List.mem_append_right _ (List.mem_append_right _ (List.mem_append_left _ (List.mem_of_getElem? (l := tables_1_8) (i := 165) (by decide +kernel))))))))))) (by decide +kernel)
theorem yw_f12_runDown : Yv yX12_runDown RX12 12 cX12_runDown 4 (some .int) 1 := ⟨wi_f12_runDown, wse_f12_runDown, in_X12, wc_f12_runDown, by decide +kernel, Nat.le_of_ble_eq_true rfl, _, rfl, rfl⟩
theorem wl_176 : Cond.methodLink RL 176 yX12_runDown ∈ wU := wU_mem (List.mem_append_right _ (List.mem_append_right _ (List.mem_append_right _ (List.mem_append_right _ (List.mem_append_right _ (List.mem_append_right _ (List.mem_append_right _ (List.mem_append_right _ (List.mem_append_left _ (List.mem_of_getElem? (l := tables_1_8) (i := 163) (by decide +kernel))))))))))) (by decide +kernel)
theorem case_runDown (C : Cl x) (hi : i + 6 ≤ lxL x) (hcs : cells ≤ room_1.cells ∧ slots ≤ room_1.slots) (R : RR S t hc hm) (Kk : ∀ S t hc' hm', RR S t hc' hm' → LG x 1806 (Vs x i) [] hc' hm' f cells slots) : LG x 1467 (Vs x i) [] hc hm f cells slots := by
  obtain ⟨S', t', r, c', m', e1, e2, R'⟩ := r_runDown R (lxX x (i + 1))
  refine l_aload C dL_law_1467 rfl (q := 3) rfl ?_
  refine l_arg (j := 1) (n := 1) C hi (by decide) rfl dL_law_1468 dL_law_1469 dL_law_1471 dL_law_1472 dL_law_1473 ?_
  refine l_callC (As := [.int (lxX x (i + 1))]) (n := 1) C dL_law_1474 wl_173 yw_f11_runDown ⟨rfl, rfl⟩ ⟨Nat.le_of_ble_eq_true rfl, Nat.le_of_ble_eq_true rfl⟩ hcs rfl rfl (fun _ => rfl) (Nat.le_of_ble_eq_true rfl) rfl (ok_f11_runDown (K := fun z => z = (r, c')) _ hc ⟨_, e1, rfl⟩) (fun _ _ ad hp => pw_int ad hp) (fun r1 h1 hp1 => ?_)
  obtain ⟨v1, rfl, hv1⟩ := hp1
  obtain ⟨rfl, rfl⟩ := Prod.mk.inj hv1
  refine l_st (st' := [.int _]) rfl ?_
  refine l_aload C dL_law_1477 rfl (q := 2) rfl ?_
  refine l_arg (j := 1) (n := 1) C hi (by decide) rfl dL_law_1478 dL_law_1479 dL_law_1481 dL_law_1482 dL_law_1483 ?_
  refine l_callM (As := [.int (lxX x (i + 1))]) (n := 1) C dL_law_1484 wl_176 yw_f12_runDown ⟨rfl, rfl⟩ ⟨Nat.le_of_ble_eq_true rfl, Nat.le_of_ble_eq_true rfl⟩ hcs rfl rfl (fun _ => rfl) (Nat.le_of_ble_eq_true rfl) rfl (ok_f12_runDown (K := fun z => z = (_, m')) _ hm ⟨_, e2, rfl⟩) (fun _ _ ad hp => pw_int ad hp) (fun r1 h1 hp1 => ?_)
  obtain ⟨v2, rfl, hv2⟩ := hp1
  obtain ⟨rfl, rfl⟩ := Prod.mk.inj hv2
  refine l_st (st' := [.int _, .int _]) rfl ?_
  refine l_eq (tgt := 1806) C dL_law_1487 (by decide) rfl ?_
  exact Kk _ _ _ _ R'
theorem wi_f11_find : Cond.instanceMethod yX11_find ∈ wU := wU_mem (List.mem_append_right _ (List.mem_append_right _ (List.mem_append_right _ (List.mem_append_right _ (List.mem_append_right _ (List.mem_append_left _ (List.mem_of_getElem? (l := tables_1_5) (i := 98) (by decide +kernel)))))))) (by decide +kernel)
theorem wc_f11_find : Cond.code yX11_find cX11_find 4 (some .int) ∈ wU := wU_mem (List.mem_append_right _ (List.mem_append_right _ (List.mem_append_right _ (List.mem_append_right _ (List.mem_append_right _ (List.mem_append_left _ (List.mem_of_getElem? (l := tables_1_5) (i := 100) (by decide +kernel)))))))) (by decide +kernel)
theorem wse_f11_find : Cond.selects RX11 yX11_find yX11_find ∈ wU := wU_mem (List.mem_append_right _ (List.mem_append_right _ (List.mem_append_right _ (List.mem_append_right _ (List.mem_append_right _ (List.mem_append_left _ (List.mem_of_getElem? (l := tables_1_5) (i := 99) (by decide +kernel)))))))) (by decide +kernel)
theorem yw_f11_find : Yv yX11_find RX11 11 cX11_find 4 (some .int) 3 := ⟨wi_f11_find, wse_f11_find, in_X11, wc_f11_find, by decide +kernel, Nat.le_of_ble_eq_true rfl, _, rfl, rfl⟩
theorem wl_177 : Cond.methodLink RL 177 yX11_find ∈ wU := wU_mem (List.mem_append_right _ (List.mem_append_right _ (List.mem_append_right _ (List.mem_append_right _ (List.mem_append_right _ (List.mem_append_left _ (List.mem_of_getElem? (l := tables_1_5) (i := 97) (by decide +kernel)))))))) (by decide +kernel)
theorem wi_f12_find : Cond.instanceMethod yX12_find ∈ wU := wU_mem (List.mem_append_right _ (List.mem_append_right _ (List.mem_append_right _ (List.mem_append_right _ (List.mem_append_right _ (List.mem_append_right _ (List.mem_append_right _ (List.mem_append_right _ (List.mem_append_left _ (List.mem_of_getElem? (l := tables_1_8) (i := 210) (by decide +kernel))))))))))) (by decide +kernel)
theorem wc_f12_find : Cond.code yX12_find cX12_find 4 (some .int) ∈ wU := wU_mem (List.mem_append_right _ (List.mem_append_right _ (List.mem_append_right _ (List.mem_append_right _ (List.mem_append_right _ (List.mem_append_right _ (List.mem_append_right _ (List.mem_append_right _ (List.mem_append_left _ (List.mem_of_getElem? (l := tables_1_8) (i := 212) (by decide +kernel))))))))))) (by decide +kernel)
theorem wse_f12_find : Cond.selects RX12 yX12_find yX12_find ∈ wU := wU_mem (List.mem_append_right _ (List.mem_append_right _ (List.mem_append_right _ (List.mem_append_right _ (List.mem_append_right _ (List.mem_append_right _ (List.mem_append_right _ (List.mem_append_right _ (List.mem_append_left _ (List.mem_of_getElem? (l := tables_1_8) (i := 211) (by decide +kernel))))))))))) (by decide +kernel)
theorem yw_f12_find : Yv yX12_find RX12 12 cX12_find 4 (some .int) 3 := ⟨wi_f12_find, wse_f12_find, in_X12, wc_f12_find, by decide +kernel, Nat.le_of_ble_eq_true rfl, _, rfl, rfl⟩
theorem wl_181 : Cond.methodLink RL 181 yX12_find ∈ wU := wU_mem (List.mem_append_right _ (List.mem_append_right _ (List.mem_append_right _ (List.mem_append_right _ (List.mem_append_right _ (List.mem_append_right _ (List.mem_append_right _ (List.mem_append_right _ (List.mem_append_left _ (List.mem_of_getElem? (l := tables_1_8) (i := 209) (by decide +kernel))))))))))) (by decide +kernel)
theorem case_find (C : Cl x) (hi : i + 6 ≤ lxL x) (hcs : cells ≤ room_1.cells ∧ slots ≤ room_1.slots) (R : RR S t hc hm) (Kk : ∀ S t hc' hm', RR S t hc' hm' → LG x 1806 (Vs x i) [] hc' hm' f cells slots) : LG x 1492 (Vs x i) [] hc hm f cells slots := by
  obtain ⟨S', t', r, c', m', e1, e2, R'⟩ := r_find R (lxX x (i + 1)) (lxX x (i + 2)) (is := if (lxX x (i + 3)) = 0 then 0 else 1) (by split <;> omega)
  refine l_aload C dL_law_1492 rfl (q := 3) rfl ?_
  refine l_arg (j := 1) (n := 1) C hi (by decide) rfl dL_law_1493 dL_law_1494 dL_law_1496 dL_law_1497 dL_law_1498 ?_
  refine l_arg (j := 2) (n := 2) C hi (by decide) rfl dL_law_1499 dL_law_1500 dL_law_1502 dL_law_1503 dL_law_1504 ?_
  refine l_arg (j := 3) (n := 3) C hi (by decide) rfl dL_law_1505 dL_law_1506 dL_law_1508 dL_law_1509 dL_law_1510 ?_
  refine l_bool C dL_law_1511 rfl dL_law_1514 dL_law_1515 rfl dL_law_1518 ?_
  refine l_callC (As := [.int (lxX x (i + 1)), .int (lxX x (i + 2)), .int (nI (if (lxX x (i + 3)) = 0 then 0 else 1))]) (n := 3) C dL_law_1519 wl_177 yw_f11_find ⟨rfl, rfl⟩ ⟨Nat.le_of_ble_eq_true rfl, Nat.le_of_ble_eq_true rfl⟩ hcs rfl rfl (fun _ => rfl) (Nat.le_of_ble_eq_true rfl) rfl (ok_f11_find (K := fun z => z = (r, c')) _ _ _ hc ⟨_, e1, rfl⟩) (fun _ _ ad hp => pw_int ad hp) (fun r1 h1 hp1 => ?_)
  obtain ⟨v1, rfl, hv1⟩ := hp1
  obtain ⟨rfl, rfl⟩ := Prod.mk.inj hv1
  refine l_st (st' := [.int _]) rfl ?_
  refine l_aload C dL_law_1522 rfl (q := 2) rfl ?_
  refine l_arg (j := 1) (n := 1) C hi (by decide) rfl dL_law_1523 dL_law_1524 dL_law_1526 dL_law_1527 dL_law_1528 ?_
  refine l_arg (j := 2) (n := 2) C hi (by decide) rfl dL_law_1529 dL_law_1530 dL_law_1532 dL_law_1533 dL_law_1534 ?_
  refine l_arg (j := 3) (n := 3) C hi (by decide) rfl dL_law_1535 dL_law_1536 dL_law_1538 dL_law_1539 dL_law_1540 ?_
  refine l_bool C dL_law_1541 rfl dL_law_1544 dL_law_1545 rfl dL_law_1548 ?_
  refine l_callM (As := [.int (lxX x (i + 1)), .int (lxX x (i + 2)), .int (nI (if (lxX x (i + 3)) = 0 then 0 else 1))]) (n := 3) C dL_law_1549 wl_181 yw_f12_find ⟨rfl, rfl⟩ ⟨Nat.le_of_ble_eq_true rfl, Nat.le_of_ble_eq_true rfl⟩ hcs rfl rfl (fun _ => rfl) (Nat.le_of_ble_eq_true rfl) rfl (ok_f12_find (K := fun z => z = (_, m')) _ _ _ hm ⟨_, e2, rfl⟩) (fun _ _ ad hp => pw_int ad hp) (fun r1 h1 hp1 => ?_)
  obtain ⟨v2, rfl, hv2⟩ := hp1
  obtain ⟨rfl, rfl⟩ := Prod.mk.inj hv2
  refine l_st (st' := [.int _, .int _]) rfl ?_
  refine l_eq (tgt := 1806) C dL_law_1552 (by decide) rfl ?_
  exact Kk _ _ _ _ R'
theorem wi_f11_strike : Cond.instanceMethod yX11_strike ∈ wU := wU_mem (List.mem_append_right _ (List.mem_append_right _ (List.mem_append_right _ (List.mem_append_right _ (List.mem_append_right _ (List.mem_append_left _ (List.mem_of_getElem? (l := tables_1_5) (i := 106) (by decide +kernel)))))))) (by decide +kernel)
theorem wc_f11_strike : Cond.code yX11_strike cX11_strike 2 (some .int) ∈ wU := wU_mem (List.mem_append_right _ (List.mem_append_right _ (List.mem_append_right _ (List.mem_append_right _ (List.mem_append_right _ (List.mem_append_left _ (List.mem_of_getElem? (l := tables_1_5) (i := 108) (by decide +kernel)))))))) (by decide +kernel)
theorem wse_f11_strike : Cond.selects RX11 yX11_strike yX11_strike ∈ wU := wU_mem (List.mem_append_right _ (List.mem_append_right _ (List.mem_append_right _ (List.mem_append_right _ (List.mem_append_right _ (List.mem_append_left _ (List.mem_of_getElem? (l := tables_1_5) (i := 107) (by decide +kernel)))))))) (by decide +kernel)
theorem yw_f11_strike : Yv yX11_strike RX11 11 cX11_strike 2 (some .int) 1 := ⟨wi_f11_strike, wse_f11_strike, in_X11, wc_f11_strike, by decide +kernel, Nat.le_of_ble_eq_true rfl, _, rfl, rfl⟩
theorem wl_182 : Cond.methodLink RL 182 yX11_strike ∈ wU := wU_mem (List.mem_append_right _ (List.mem_append_right _ (List.mem_append_right _ (List.mem_append_right _ (List.mem_append_right _ (List.mem_append_left _ (List.mem_of_getElem? (l := tables_1_5) (i := 105) (by decide +kernel)))))))) (by decide +kernel)
theorem wi_f12_strike : Cond.instanceMethod yX12_strike ∈ wU := wU_mem (List.mem_append_right _ (List.mem_append_right _ (List.mem_append_right _ (List.mem_append_right _ (List.mem_append_right _ (List.mem_append_right _ (List.mem_append_right _ (List.mem_append_right _ (List.mem_append_left _ (List.mem_of_getElem? (l := tables_1_8) (i := 218) (by decide +kernel))))))))))) (by decide +kernel)
theorem wc_f12_strike : Cond.code yX12_strike cX12_strike 2 (some .int) ∈ wU := wU_mem (List.mem_append_right _ (List.mem_append_right _ (List.mem_append_right _ (List.mem_append_right _ (List.mem_append_right _ (List.mem_append_right _ (List.mem_append_right _ (List.mem_append_right _ (List.mem_append_left _ (List.mem_of_getElem? (l := tables_1_8) (i := 220) (by decide +kernel))))))))))) (by decide +kernel)
theorem wse_f12_strike : Cond.selects RX12 yX12_strike yX12_strike ∈ wU := wU_mem (List.mem_append_right _ (List.mem_append_right _ (List.mem_append_right _ (List.mem_append_right _ (List.mem_append_right _ (List.mem_append_right _ (List.mem_append_right _ (List.mem_append_right _ (List.mem_append_left _ (List.mem_of_getElem? (l := tables_1_8) (i := 219) (by decide +kernel))))))))))) (by decide +kernel)
theorem yw_f12_strike : Yv yX12_strike RX12 12 cX12_strike 2 (some .int) 1 := ⟨wi_f12_strike, wse_f12_strike, in_X12, wc_f12_strike, by decide +kernel, Nat.le_of_ble_eq_true rfl, _, rfl, rfl⟩
theorem wl_185 : Cond.methodLink RL 185 yX12_strike ∈ wU := wU_mem (List.mem_append_right _ (List.mem_append_right _ (List.mem_append_right _ (List.mem_append_right _ (List.mem_append_right _ (List.mem_append_right _ (List.mem_append_right _ (List.mem_append_right _ (List.mem_append_left _ (List.mem_of_getElem? (l := tables_1_8) (i := 217) (by decide +kernel))))))))))) (by decide +kernel)
theorem case_strike (C : Cl x) (hi : i + 6 ≤ lxL x) (hcs : cells ≤ room_1.cells ∧ slots ≤ room_1.slots) (R : RR S t hc hm) (Kk : ∀ S t hc' hm', RR S t hc' hm' → LG x 1806 (Vs x i) [] hc' hm' f cells slots) : LG x 1557 (Vs x i) [] hc hm f cells slots := by
  obtain ⟨S', t', r, c', m', e1, e2, R'⟩ := r_strike R (lxX x (i + 1))
  refine l_aload C dL_law_1557 rfl (q := 3) rfl ?_
  refine l_arg (j := 1) (n := 1) C hi (by decide) rfl dL_law_1558 dL_law_1559 dL_law_1561 dL_law_1562 dL_law_1563 ?_
  refine l_callC (As := [.int (lxX x (i + 1))]) (n := 1) C dL_law_1564 wl_182 yw_f11_strike ⟨rfl, rfl⟩ ⟨Nat.le_of_ble_eq_true rfl, Nat.le_of_ble_eq_true rfl⟩ hcs rfl rfl (fun _ => rfl) (Nat.le_of_ble_eq_true rfl) rfl (ok_f11_strike (K := fun z => z = (r, c')) _ hc ⟨_, e1, rfl⟩) (fun _ _ ad hp => pw_int ad hp) (fun r1 h1 hp1 => ?_)
  obtain ⟨v1, rfl, hv1⟩ := hp1
  obtain ⟨rfl, rfl⟩ := Prod.mk.inj hv1
  refine l_st (st' := [.int _]) rfl ?_
  refine l_aload C dL_law_1567 rfl (q := 2) rfl ?_
  refine l_arg (j := 1) (n := 1) C hi (by decide) rfl dL_law_1568 dL_law_1569 dL_law_1571 dL_law_1572 dL_law_1573 ?_
  refine l_callM (As := [.int (lxX x (i + 1))]) (n := 1) C dL_law_1574 wl_185 yw_f12_strike ⟨rfl, rfl⟩ ⟨Nat.le_of_ble_eq_true rfl, Nat.le_of_ble_eq_true rfl⟩ hcs rfl rfl (fun _ => rfl) (Nat.le_of_ble_eq_true rfl) rfl (ok_f12_strike (K := fun z => z = (_, m')) _ hm ⟨_, e2, rfl⟩) (fun _ _ ad hp => pw_int ad hp) (fun r1 h1 hp1 => ?_)
  obtain ⟨v2, rfl, hv2⟩ := hp1
  obtain ⟨rfl, rfl⟩ := Prod.mk.inj hv2
  refine l_st (st' := [.int _, .int _]) rfl ?_
  refine l_eq (tgt := 1806) C dL_law_1577 (by decide) rfl ?_
  exact Kk _ _ _ _ R'
theorem wi_f11_known : Cond.instanceMethod yX11_known ∈ wU := wU_mem (List.mem_append_right _ (List.mem_append_right _ (List.mem_append_right _ (List.mem_append_right _ (List.mem_append_right _ (List.mem_append_left _ (List.mem_of_getElem? (l := tables_1_5) (i := 115) (by decide +kernel)))))))) (by decide +kernel)
theorem wc_f11_known : Cond.code yX11_known cX11_known 2 (some .boolean) ∈ wU := wU_mem (List.mem_append_right _ (List.mem_append_right _ (List.mem_append_right _ (List.mem_append_right _ (List.mem_append_right _ (List.mem_append_left _ (List.mem_of_getElem? (l := tables_1_5) (i := 117) (by decide +kernel)))))))) (by decide +kernel)
theorem wse_f11_known : Cond.selects RX11 yX11_known yX11_known ∈ wU := wU_mem (List.mem_append_right _ (List.mem_append_right _ (List.mem_append_right _ (List.mem_append_right _ (List.mem_append_right _ (List.mem_append_left _ (List.mem_of_getElem? (l := tables_1_5) (i := 116) (by decide +kernel)))))))) (by decide +kernel)
theorem yw_f11_known : Yv yX11_known RX11 11 cX11_known 2 (some .boolean) 1 := ⟨wi_f11_known, wse_f11_known, in_X11, wc_f11_known, by decide +kernel, Nat.le_of_ble_eq_true rfl, _, rfl, rfl⟩
theorem wl_186 : Cond.methodLink RL 186 yX11_known ∈ wU := wU_mem (List.mem_append_right _ (List.mem_append_right _ (List.mem_append_right _ (List.mem_append_right _ (List.mem_append_right _ (List.mem_append_left _ (List.mem_of_getElem? (l := tables_1_5) (i := 114) (by decide +kernel)))))))) (by decide +kernel)
theorem wi_f12_known : Cond.instanceMethod yX12_known ∈ wU := wU_mem (List.mem_append_right _ (List.mem_append_right _ (List.mem_append_right _ (List.mem_append_right _ (List.mem_append_right _ (List.mem_append_right _ (List.mem_append_right _ (List.mem_append_right _ (List.mem_append_left _ (List.mem_of_getElem? (l := tables_1_8) (i := 222) (by decide +kernel))))))))))) (by decide +kernel)
theorem wc_f12_known : Cond.code yX12_known cX12_known 2 (some .boolean) ∈ wU := wU_mem (List.mem_append_right _ (List.mem_append_right _ (List.mem_append_right _ (List.mem_append_right _ (List.mem_append_right _ (List.mem_append_right _ (List.mem_append_right _ (List.mem_append_right _ (List.mem_append_left _ (List.mem_of_getElem? (l := tables_1_8) (i := 224) (by decide +kernel))))))))))) (by decide +kernel)
theorem wse_f12_known : Cond.selects RX12 yX12_known yX12_known ∈ wU := wU_mem (List.mem_append_right _ (List.mem_append_right _ (List.mem_append_right _ (List.mem_append_right _ (List.mem_append_right _ (List.mem_append_right _ (List.mem_append_right _ (List.mem_append_right _ (List.mem_append_left _ (List.mem_of_getElem? (l := tables_1_8) (i := 223) (by decide +kernel))))))))))) (by decide +kernel)
theorem yw_f12_known : Yv yX12_known RX12 12 cX12_known 2 (some .boolean) 1 := ⟨wi_f12_known, wse_f12_known, in_X12, wc_f12_known, by decide +kernel, Nat.le_of_ble_eq_true rfl, _, rfl, rfl⟩
theorem wl_190 : Cond.methodLink RL 190 yX12_known ∈ wU := wU_mem (List.mem_append_right _ (List.mem_append_right _ (List.mem_append_right _ (List.mem_append_right _ (List.mem_append_right _ (List.mem_append_right _ (List.mem_append_right _ (List.mem_append_right _ (List.mem_append_left _ (List.mem_of_getElem? (l := tables_1_8) (i := 221) (by decide +kernel))))))))))) (by decide +kernel)
theorem case_known (C : Cl x) (hi : i + 6 ≤ lxL x) (hcs : cells ≤ room_1.cells ∧ slots ≤ room_1.slots) (R : RR S t hc hm) (Kk : ∀ S t hc' hm', RR S t hc' hm' → LG x 1806 (Vs x i) [] hc' hm' f cells slots) : LG x 1582 (Vs x i) [] hc hm f cells slots := by
  obtain ⟨S', t', r, c', m', e1, e2, R'⟩ := r_known R (lxX x (i + 1))
  refine l_aload C dL_law_1582 rfl (q := 3) rfl ?_
  refine l_arg (j := 1) (n := 1) C hi (by decide) rfl dL_law_1583 dL_law_1584 dL_law_1586 dL_law_1587 dL_law_1588 ?_
  refine l_callC (As := [.int (lxX x (i + 1))]) (n := 1) C dL_law_1589 wl_186 yw_f11_known ⟨rfl, rfl⟩ ⟨Nat.le_of_ble_eq_true rfl, Nat.le_of_ble_eq_true rfl⟩ hcs rfl rfl (fun _ => rfl) (Nat.le_of_ble_eq_true rfl) rfl (ok_f11_known (K := fun z => z = (r, c')) _ hc ⟨_, e1, rfl⟩) (fun _ _ ad hp => pw_int ad hp) (fun r1 h1 hp1 => ?_)
  obtain ⟨v1, rfl, hv1⟩ := hp1
  obtain ⟨rfl, rfl⟩ := Prod.mk.inj hv1
  refine l_st (st' := [.int _]) rfl ?_
  refine l_aload C dL_law_1592 rfl (q := 2) rfl ?_
  refine l_arg (j := 1) (n := 1) C hi (by decide) rfl dL_law_1593 dL_law_1594 dL_law_1596 dL_law_1597 dL_law_1598 ?_
  refine l_callM (As := [.int (lxX x (i + 1))]) (n := 1) C dL_law_1599 wl_190 yw_f12_known ⟨rfl, rfl⟩ ⟨Nat.le_of_ble_eq_true rfl, Nat.le_of_ble_eq_true rfl⟩ hcs rfl rfl (fun _ => rfl) (Nat.le_of_ble_eq_true rfl) rfl (ok_f12_known (K := fun z => z = (_, m')) _ hm ⟨_, e2, rfl⟩) (fun _ _ ad hp => pw_int ad hp) (fun r1 h1 hp1 => ?_)
  obtain ⟨v2, rfl, hv2⟩ := hp1
  obtain ⟨rfl, rfl⟩ := Prod.mk.inj hv2
  refine l_st (st' := [.int _, .int _]) rfl ?_
  refine l_eq (tgt := 1806) C dL_law_1602 (by decide) rfl ?_
  exact Kk _ _ _ _ R'
theorem wi_f11_sours : Cond.instanceMethod yX11_sours ∈ wU := wU_mem (List.mem_append_right _ (List.mem_append_right _ (List.mem_append_right _ (List.mem_append_right _ (List.mem_append_right _ (List.mem_append_left _ (List.mem_of_getElem? (l := tables_1_5) (i := 119) (by decide +kernel)))))))) (by decide +kernel)
theorem wc_f11_sours : Cond.code yX11_sours cX11_sours 4 (some .int) ∈ wU := wU_mem (List.mem_append_right _ (List.mem_append_right _ (List.mem_append_right _ (List.mem_append_right _ (List.mem_append_right _ (List.mem_append_left _ (List.mem_of_getElem? (l := tables_1_5) (i := 121) (by decide +kernel)))))))) (by decide +kernel)
theorem wse_f11_sours : Cond.selects RX11 yX11_sours yX11_sours ∈ wU := wU_mem (List.mem_append_right _ (List.mem_append_right _ (List.mem_append_right _ (List.mem_append_right _ (List.mem_append_right _ (List.mem_append_left _ (List.mem_of_getElem? (l := tables_1_5) (i := 120) (by decide +kernel)))))))) (by decide +kernel)
theorem yw_f11_sours : Yv yX11_sours RX11 11 cX11_sours 4 (some .int) 1 := ⟨wi_f11_sours, wse_f11_sours, in_X11, wc_f11_sours, by decide +kernel, Nat.le_of_ble_eq_true rfl, _, rfl, rfl⟩
theorem wl_191 : Cond.methodLink RL 191 yX11_sours ∈ wU := wU_mem (List.mem_append_right _ (List.mem_append_right _ (List.mem_append_right _ (List.mem_append_right _ (List.mem_append_right _ (List.mem_append_left _ (List.mem_of_getElem? (l := tables_1_5) (i := 118) (by decide +kernel)))))))) (by decide +kernel)
theorem wi_f12_sours : Cond.instanceMethod yX12_sours ∈ wU := wU_mem (List.mem_append_right _ (List.mem_append_right _ (List.mem_append_right _ (List.mem_append_right _ (List.mem_append_right _ (List.mem_append_right _ (List.mem_append_right _ (List.mem_append_right _ (List.mem_append_right _ (List.mem_of_getElem? (l := tables_1_9) (i := 11) (by decide +kernel))))))))))) (by decide +kernel)
theorem wc_f12_sours : Cond.code yX12_sours cX12_sours 4 (some .int) ∈ wU := wU_mem (List.mem_append_right _ (List.mem_append_right _ (List.mem_append_right _ (List.mem_append_right _ (List.mem_append_right _ (List.mem_append_right _ (List.mem_append_right _ (List.mem_append_right _ (List.mem_append_right _ (List.mem_of_getElem? (l := tables_1_9) (i := 13) (by decide +kernel))))))))))) (by decide +kernel)
theorem wse_f12_sours : Cond.selects RX12 yX12_sours yX12_sours ∈ wU := wU_mem (List.mem_append_right _ (List.mem_append_right _ (List.mem_append_right _ (List.mem_append_right _ (List.mem_append_right _ (List.mem_append_right _ (List.mem_append_right _ (List.mem_append_right _ (List.mem_append_right _ (List.mem_of_getElem? (l := tables_1_9) (i := 12) (by decide +kernel))))))))))) (by decide +kernel)
theorem yw_f12_sours : Yv yX12_sours RX12 12 cX12_sours 4 (some .int) 1 := ⟨wi_f12_sours, wse_f12_sours, in_X12, wc_f12_sours, by decide +kernel, Nat.le_of_ble_eq_true rfl, _, rfl, rfl⟩
theorem wl_194 : Cond.methodLink RL 194 yX12_sours ∈ wU := wU_mem (List.mem_append_right _ (List.mem_append_right _ (List.mem_append_right _ (List.mem_append_right _ (List.mem_append_right _ (List.mem_append_right _ (List.mem_append_right _ (List.mem_append_right _ (List.mem_append_right _ (List.mem_of_getElem? (l := tables_1_9) (i := 10) (by decide +kernel))))))))))) (by decide +kernel)
theorem case_sours (C : Cl x) (hi : i + 6 ≤ lxL x) (hcs : cells ≤ room_1.cells ∧ slots ≤ room_1.slots) (R : RR S t hc hm) (Kk : ∀ S t hc' hm', RR S t hc' hm' → LG x 1806 (Vs x i) [] hc' hm' f cells slots) : LG x 1607 (Vs x i) [] hc hm f cells slots := by
  obtain ⟨S', t', r, c', m', e1, e2, R'⟩ := r_sours R (lxX x (i + 1))
  refine l_aload C dL_law_1607 rfl (q := 3) rfl ?_
  refine l_arg (j := 1) (n := 1) C hi (by decide) rfl dL_law_1608 dL_law_1609 dL_law_1611 dL_law_1612 dL_law_1613 ?_
  refine l_callC (As := [.int (lxX x (i + 1))]) (n := 1) C dL_law_1614 wl_191 yw_f11_sours ⟨rfl, rfl⟩ ⟨Nat.le_of_ble_eq_true rfl, Nat.le_of_ble_eq_true rfl⟩ hcs rfl rfl (fun _ => rfl) (Nat.le_of_ble_eq_true rfl) rfl (ok_f11_sours (K := fun z => z = (r, c')) _ hc ⟨_, e1, rfl⟩) (fun _ _ ad hp => pw_int ad hp) (fun r1 h1 hp1 => ?_)
  obtain ⟨v1, rfl, hv1⟩ := hp1
  obtain ⟨rfl, rfl⟩ := Prod.mk.inj hv1
  refine l_st (st' := [.int _]) rfl ?_
  refine l_aload C dL_law_1617 rfl (q := 2) rfl ?_
  refine l_arg (j := 1) (n := 1) C hi (by decide) rfl dL_law_1618 dL_law_1619 dL_law_1621 dL_law_1622 dL_law_1623 ?_
  refine l_callM (As := [.int (lxX x (i + 1))]) (n := 1) C dL_law_1624 wl_194 yw_f12_sours ⟨rfl, rfl⟩ ⟨Nat.le_of_ble_eq_true rfl, Nat.le_of_ble_eq_true rfl⟩ hcs rfl rfl (fun _ => rfl) (Nat.le_of_ble_eq_true rfl) rfl (ok_f12_sours (K := fun z => z = (_, m')) _ hm ⟨_, e2, rfl⟩) (fun _ _ ad hp => pw_int ad hp) (fun r1 h1 hp1 => ?_)
  obtain ⟨v2, rfl, hv2⟩ := hp1
  obtain ⟨rfl, rfl⟩ := Prod.mk.inj hv2
  refine l_st (st' := [.int _, .int _]) rfl ?_
  refine l_eq (tgt := 1806) C dL_law_1627 (by decide) rfl ?_
  exact Kk _ _ _ _ R'
theorem wi_f11_chance : Cond.instanceMethod yX11_chance ∈ wU := wU_mem (List.mem_append_right _ (List.mem_append_right _ (List.mem_append_right _ (List.mem_append_right _ (List.mem_append_right _ (List.mem_append_left _ (List.mem_of_getElem? (l := tables_1_5) (i := 123) (by decide +kernel)))))))) (by decide +kernel)
theorem wc_f11_chance : Cond.code yX11_chance cX11_chance 8 (some .int) ∈ wU := wU_mem (List.mem_append_right _ (List.mem_append_right _ (List.mem_append_right _ (List.mem_append_right _ (List.mem_append_right _ (List.mem_append_left _ (List.mem_of_getElem? (l := tables_1_5) (i := 125) (by decide +kernel)))))))) (by decide +kernel)
theorem wse_f11_chance : Cond.selects RX11 yX11_chance yX11_chance ∈ wU := wU_mem (List.mem_append_right _ (List.mem_append_right _ (List.mem_append_right _ (List.mem_append_right _ (List.mem_append_right _ (List.mem_append_left _ (List.mem_of_getElem? (l := tables_1_5) (i := 124) (by decide +kernel)))))))) (by decide +kernel)
theorem yw_f11_chance : Yv yX11_chance RX11 11 cX11_chance 8 (some .int) 4 := ⟨wi_f11_chance, wse_f11_chance, in_X11, wc_f11_chance, by decide +kernel, Nat.le_of_ble_eq_true rfl, _, rfl, rfl⟩
theorem wl_195 : Cond.methodLink RL 195 yX11_chance ∈ wU := wU_mem (List.mem_append_right _ (List.mem_append_right _ (List.mem_append_right _ (List.mem_append_right _ (List.mem_append_right _ (List.mem_append_left _ (List.mem_of_getElem? (l := tables_1_5) (i := 122) (by decide +kernel)))))))) (by decide +kernel)
theorem wi_f12_chance : Cond.instanceMethod yX12_chance ∈ wU := wU_mem (List.mem_append_right _ (List.mem_append_right _ (List.mem_append_right _ (List.mem_append_right _ (List.mem_append_right _ (List.mem_append_right _ (List.mem_append_right _ (List.mem_append_right _ (List.mem_append_right _ (List.mem_of_getElem? (l := tables_1_9) (i := 15) (by decide +kernel))))))))))) (by decide +kernel)
theorem wc_f12_chance : Cond.code yX12_chance cX12_chance 9 (some .int) ∈ wU := wU_mem (List.mem_append_right _ (List.mem_append_right _ (List.mem_append_right _ (List.mem_append_right _ (List.mem_append_right _ (List.mem_append_right _ (List.mem_append_right _ (List.mem_append_right _ (List.mem_append_right _ (List.mem_of_getElem? (l := tables_1_9) (i := 17) (by decide +kernel))))))))))) (by decide +kernel)
theorem wse_f12_chance : Cond.selects RX12 yX12_chance yX12_chance ∈ wU := wU_mem (List.mem_append_right _ (List.mem_append_right _ (List.mem_append_right _ (List.mem_append_right _ (List.mem_append_right _ (List.mem_append_right _ (List.mem_append_right _ (List.mem_append_right _ (List.mem_append_right _ (List.mem_of_getElem? (l := tables_1_9) (i := 16) (by decide +kernel))))))))))) (by decide +kernel)
theorem yw_f12_chance : Yv yX12_chance RX12 12 cX12_chance 9 (some .int) 4 := ⟨wi_f12_chance, wse_f12_chance, in_X12, wc_f12_chance, by decide +kernel, Nat.le_of_ble_eq_true rfl, _, rfl, rfl⟩
theorem wl_199 : Cond.methodLink RL 199 yX12_chance ∈ wU := wU_mem (List.mem_append_right _ (List.mem_append_right _ (List.mem_append_right _ (List.mem_append_right _ (List.mem_append_right _ (List.mem_append_right _ (List.mem_append_right _ (List.mem_append_right _ (List.mem_append_right _ (List.mem_of_getElem? (l := tables_1_9) (i := 14) (by decide +kernel))))))))))) (by decide +kernel)
theorem case_chance (C : Cl x) (hi : i + 6 ≤ lxL x) (hcs : cells ≤ room_1.cells ∧ slots ≤ room_1.slots) (R : RR S t hc hm) (Kk : ∀ S t hc' hm', RR S t hc' hm' → LG x 1806 (Vs x i) [] hc' hm' f cells slots) : LG x 1632 (Vs x i) [] hc hm f cells slots := by
  obtain ⟨S', t', r, c', m', e1, e2, R'⟩ := r_chance R (lxX x (i + 1)) (lxX x (i + 2)) (lxX x (i + 3)) (lxX x (i + 4))
  refine l_aload C dL_law_1632 rfl (q := 3) rfl ?_
  refine l_arg (j := 1) (n := 1) C hi (by decide) rfl dL_law_1633 dL_law_1634 dL_law_1636 dL_law_1637 dL_law_1638 ?_
  refine l_arg (j := 2) (n := 2) C hi (by decide) rfl dL_law_1639 dL_law_1640 dL_law_1642 dL_law_1643 dL_law_1644 ?_
  refine l_arg (j := 3) (n := 3) C hi (by decide) rfl dL_law_1645 dL_law_1646 dL_law_1648 dL_law_1649 dL_law_1650 ?_
  refine l_arg (j := 4) (n := 4) C hi (by decide) rfl dL_law_1651 dL_law_1652 dL_law_1654 dL_law_1655 dL_law_1656 ?_
  refine l_callC (As := [.int (lxX x (i + 1)), .int (lxX x (i + 2)), .int (lxX x (i + 3)), .int (lxX x (i + 4))]) (n := 4) C dL_law_1657 wl_195 yw_f11_chance ⟨rfl, rfl⟩ ⟨Nat.le_of_ble_eq_true rfl, Nat.le_of_ble_eq_true rfl⟩ hcs rfl rfl (fun _ => rfl) (Nat.le_of_ble_eq_true rfl) rfl (ok_f11_chance (K := fun z => z = (r, c')) _ _ _ _ hc ⟨_, e1, rfl⟩) (fun _ _ ad hp => pw_int ad hp) (fun r1 h1 hp1 => ?_)
  obtain ⟨v1, rfl, hv1⟩ := hp1
  obtain ⟨rfl, rfl⟩ := Prod.mk.inj hv1
  refine l_st (st' := [.int _]) rfl ?_
  refine l_aload C dL_law_1660 rfl (q := 2) rfl ?_
  refine l_arg (j := 1) (n := 1) C hi (by decide) rfl dL_law_1661 dL_law_1662 dL_law_1664 dL_law_1665 dL_law_1666 ?_
  refine l_arg (j := 2) (n := 2) C hi (by decide) rfl dL_law_1667 dL_law_1668 dL_law_1670 dL_law_1671 dL_law_1672 ?_
  refine l_arg (j := 3) (n := 3) C hi (by decide) rfl dL_law_1673 dL_law_1674 dL_law_1676 dL_law_1677 dL_law_1678 ?_
  refine l_arg (j := 4) (n := 4) C hi (by decide) rfl dL_law_1679 dL_law_1680 dL_law_1682 dL_law_1683 dL_law_1684 ?_
  refine l_callM (As := [.int (lxX x (i + 1)), .int (lxX x (i + 2)), .int (lxX x (i + 3)), .int (lxX x (i + 4))]) (n := 4) C dL_law_1685 wl_199 yw_f12_chance ⟨rfl, rfl⟩ ⟨Nat.le_of_ble_eq_true rfl, Nat.le_of_ble_eq_true rfl⟩ hcs rfl rfl (fun _ => rfl) (Nat.le_of_ble_eq_true rfl) rfl (ok_f12_chance (K := fun z => z = (_, m')) _ _ _ _ hm ⟨_, e2, rfl⟩) (fun _ _ ad hp => pw_int ad hp) (fun r1 h1 hp1 => ?_)
  obtain ⟨v2, rfl, hv2⟩ := hp1
  obtain ⟨rfl, rfl⟩ := Prod.mk.inj hv2
  refine l_st (st' := [.int _, .int _]) rfl ?_
  refine l_eq (tgt := 1806) C dL_law_1688 (by decide) rfl ?_
  exact Kk _ _ _ _ R'
theorem wi_f11_tried : Cond.instanceMethod yX11_tried ∈ wU := wU_mem (List.mem_append_right _ (List.mem_append_right _ (List.mem_append_right _ (List.mem_append_right _ (List.mem_append_right _ (List.mem_append_left _ (List.mem_of_getElem? (l := tables_1_5) (i := 134) (by decide +kernel)))))))) (by decide +kernel)
theorem wc_f11_tried : Cond.code yX11_tried cX11_tried 6 (some .int) ∈ wU := wU_mem (List.mem_append_right _ (List.mem_append_right _ (List.mem_append_right _ (List.mem_append_right _ (List.mem_append_right _ (List.mem_append_left _ (List.mem_of_getElem? (l := tables_1_5) (i := 136) (by decide +kernel)))))))) (by decide +kernel)
theorem wse_f11_tried : Cond.selects RX11 yX11_tried yX11_tried ∈ wU := wU_mem (List.mem_append_right _ (List.mem_append_right _ (List.mem_append_right _ (List.mem_append_right _ (List.mem_append_right _ (List.mem_append_left _ (List.mem_of_getElem? (l := tables_1_5) (i := 135) (by decide +kernel)))))))) (by decide +kernel)
theorem yw_f11_tried : Yv yX11_tried RX11 11 cX11_tried 6 (some .int) 3 := ⟨wi_f11_tried, wse_f11_tried, in_X11, wc_f11_tried, by decide +kernel, Nat.le_of_ble_eq_true rfl, _, rfl, rfl⟩
theorem wl_200 : Cond.methodLink RL 200 yX11_tried ∈ wU := wU_mem (List.mem_append_right _ (List.mem_append_right _ (List.mem_append_right _ (List.mem_append_right _ (List.mem_append_right _ (List.mem_append_left _ (List.mem_of_getElem? (l := tables_1_5) (i := 133) (by decide +kernel)))))))) (by decide +kernel)
theorem wi_f12_tried : Cond.instanceMethod yX12_tried ∈ wU := wU_mem (List.mem_append_right _ (List.mem_append_right _ (List.mem_append_right _ (List.mem_append_right _ (List.mem_append_right _ (List.mem_append_right _ (List.mem_append_right _ (List.mem_append_right _ (List.mem_append_right _ (List.mem_of_getElem? (l := tables_1_9) (i := 19) (by decide +kernel))))))))))) (by decide +kernel)
theorem wc_f12_tried : Cond.code yX12_tried cX12_tried 5 (some .int) ∈ wU := wU_mem (List.mem_append_right _ (List.mem_append_right _ (List.mem_append_right _ (List.mem_append_right _ (List.mem_append_right _ (List.mem_append_right _ (List.mem_append_right _ (List.mem_append_right _ (List.mem_append_right _ (List.mem_of_getElem? (l := tables_1_9) (i := 21) (by decide +kernel))))))))))) (by decide +kernel)
theorem wse_f12_tried : Cond.selects RX12 yX12_tried yX12_tried ∈ wU := wU_mem (List.mem_append_right _ (List.mem_append_right _ (List.mem_append_right _ (List.mem_append_right _ (List.mem_append_right _ (List.mem_append_right _ (List.mem_append_right _ (List.mem_append_right _ (List.mem_append_right _ (List.mem_of_getElem? (l := tables_1_9) (i := 20) (by decide +kernel))))))))))) (by decide +kernel)
theorem yw_f12_tried : Yv yX12_tried RX12 12 cX12_tried 5 (some .int) 3 := ⟨wi_f12_tried, wse_f12_tried, in_X12, wc_f12_tried, by decide +kernel, Nat.le_of_ble_eq_true rfl, _, rfl, rfl⟩
theorem wl_203 : Cond.methodLink RL 203 yX12_tried ∈ wU := wU_mem (List.mem_append_right _ (List.mem_append_right _ (List.mem_append_right _ (List.mem_append_right _ (List.mem_append_right _ (List.mem_append_right _ (List.mem_append_right _ (List.mem_append_right _ (List.mem_append_right _ (List.mem_of_getElem? (l := tables_1_9) (i := 18) (by decide +kernel))))))))))) (by decide +kernel)
theorem case_tried (C : Cl x) (hi : i + 6 ≤ lxL x) (hcs : cells ≤ room_1.cells ∧ slots ≤ room_1.slots) (R : RR S t hc hm) (Kk : ∀ S t hc' hm', RR S t hc' hm' → LG x 1806 (Vs x i) [] hc' hm' f cells slots) : LG x 1693 (Vs x i) [] hc hm f cells slots := by
  obtain ⟨S', t', r, c', m', e1, e2, R'⟩ := r_tried R (lxX x (i + 1)) (lxX x (i + 2)) (lxX x (i + 3))
  refine l_aload C dL_law_1693 rfl (q := 3) rfl ?_
  refine l_arg (j := 1) (n := 1) C hi (by decide) rfl dL_law_1694 dL_law_1695 dL_law_1697 dL_law_1698 dL_law_1699 ?_
  refine l_arg (j := 2) (n := 2) C hi (by decide) rfl dL_law_1700 dL_law_1701 dL_law_1703 dL_law_1704 dL_law_1705 ?_
  refine l_arg (j := 3) (n := 3) C hi (by decide) rfl dL_law_1706 dL_law_1707 dL_law_1709 dL_law_1710 dL_law_1711 ?_
  refine l_callC (As := [.int (lxX x (i + 1)), .int (lxX x (i + 2)), .int (lxX x (i + 3))]) (n := 3) C dL_law_1712 wl_200 yw_f11_tried ⟨rfl, rfl⟩ ⟨Nat.le_of_ble_eq_true rfl, Nat.le_of_ble_eq_true rfl⟩ hcs rfl rfl (fun _ => rfl) (Nat.le_of_ble_eq_true rfl) rfl (ok_f11_tried (K := fun z => z = (r, c')) _ _ _ hc ⟨_, e1, rfl⟩) (fun _ _ ad hp => pw_int ad hp) (fun r1 h1 hp1 => ?_)
  obtain ⟨v1, rfl, hv1⟩ := hp1
  obtain ⟨rfl, rfl⟩ := Prod.mk.inj hv1
  refine l_st (st' := [.int _]) rfl ?_
  refine l_aload C dL_law_1715 rfl (q := 2) rfl ?_
  refine l_arg (j := 1) (n := 1) C hi (by decide) rfl dL_law_1716 dL_law_1717 dL_law_1719 dL_law_1720 dL_law_1721 ?_
  refine l_arg (j := 2) (n := 2) C hi (by decide) rfl dL_law_1722 dL_law_1723 dL_law_1725 dL_law_1726 dL_law_1727 ?_
  refine l_arg (j := 3) (n := 3) C hi (by decide) rfl dL_law_1728 dL_law_1729 dL_law_1731 dL_law_1732 dL_law_1733 ?_
  refine l_callM (As := [.int (lxX x (i + 1)), .int (lxX x (i + 2)), .int (lxX x (i + 3))]) (n := 3) C dL_law_1734 wl_203 yw_f12_tried ⟨rfl, rfl⟩ ⟨Nat.le_of_ble_eq_true rfl, Nat.le_of_ble_eq_true rfl⟩ hcs rfl rfl (fun _ => rfl) (Nat.le_of_ble_eq_true rfl) rfl (ok_f12_tried (K := fun z => z = (_, m')) _ _ _ hm ⟨_, e2, rfl⟩) (fun _ _ ad hp => pw_int ad hp) (fun r1 h1 hp1 => ?_)
  obtain ⟨v2, rfl, hv2⟩ := hp1
  obtain ⟨rfl, rfl⟩ := Prod.mk.inj hv2
  refine l_st (st' := [.int _, .int _]) rfl ?_
  refine l_eq (tgt := 1806) C dL_law_1737 (by decide) rfl ?_
  exact Kk _ _ _ _ R'
theorem wi_f11_undo : Cond.instanceMethod yX11_undo ∈ wU := wU_mem (List.mem_append_right _ (List.mem_append_right _ (List.mem_append_right _ (List.mem_append_right _ (List.mem_append_right _ (List.mem_append_left _ (List.mem_of_getElem? (l := tables_1_5) (i := 142) (by decide +kernel)))))))) (by decide +kernel)
theorem wc_f11_undo : Cond.code yX11_undo cX11_undo 1 (some .int) ∈ wU := wU_mem (List.mem_append_right _ (List.mem_append_right _ (List.mem_append_right _ (List.mem_append_right _ (List.mem_append_right _ (List.mem_append_left _ (List.mem_of_getElem? (l := tables_1_5) (i := 144) (by decide +kernel)))))))) (by decide +kernel)
theorem wse_f11_undo : Cond.selects RX11 yX11_undo yX11_undo ∈ wU := wU_mem (List.mem_append_right _ (List.mem_append_right _ (List.mem_append_right _ (List.mem_append_right _ (List.mem_append_right _ (List.mem_append_left _ (List.mem_of_getElem? (l := tables_1_5) (i := 143) (by decide +kernel)))))))) (by decide +kernel)
theorem yw_f11_undo : Yv yX11_undo RX11 11 cX11_undo 1 (some .int) 0 := ⟨wi_f11_undo, wse_f11_undo, in_X11, wc_f11_undo, by decide +kernel, Nat.le_of_ble_eq_true rfl, _, rfl, rfl⟩
theorem wl_204 : Cond.methodLink RL 204 yX11_undo ∈ wU := wU_mem (List.mem_append_right _ (List.mem_append_right _ (List.mem_append_right _ (List.mem_append_right _ (List.mem_append_right _ (List.mem_append_left _ (List.mem_of_getElem? (l := tables_1_5) (i := 141) (by decide +kernel)))))))) (by decide +kernel)
theorem wi_f12_undo : Cond.instanceMethod yX12_undo ∈ wU := wU_mem (List.mem_append_right _ (List.mem_append_right _ (List.mem_append_right _ (List.mem_append_right _ (List.mem_append_right _ (List.mem_append_right _ (List.mem_append_right _ (List.mem_append_right _ (List.mem_append_right _ (List.mem_of_getElem? (l := tables_1_9) (i := 23) (by decide +kernel))))))))))) (by decide +kernel)
theorem wc_f12_undo : Cond.code yX12_undo cX12_undo 1 (some .int) ∈ wU := wU_mem (List.mem_append_right _ (List.mem_append_right _ (List.mem_append_right _ (List.mem_append_right _ (List.mem_append_right _ (List.mem_append_right _ (List.mem_append_right _ (List.mem_append_right _ (List.mem_append_right _ (List.mem_of_getElem? (l := tables_1_9) (i := 25) (by decide +kernel))))))))))) (by decide +kernel)
theorem wse_f12_undo : Cond.selects RX12 yX12_undo yX12_undo ∈ wU := wU_mem (List.mem_append_right _ (List.mem_append_right _ (List.mem_append_right _ (List.mem_append_right _ (List.mem_append_right _ (List.mem_append_right _ (List.mem_append_right _ (List.mem_append_right _ (List.mem_append_right _ (List.mem_of_getElem? (l := tables_1_9) (i := 24) (by decide +kernel))))))))))) (by decide +kernel)
theorem yw_f12_undo : Yv yX12_undo RX12 12 cX12_undo 1 (some .int) 0 := ⟨wi_f12_undo, wse_f12_undo, in_X12, wc_f12_undo, by decide +kernel, Nat.le_of_ble_eq_true rfl, _, rfl, rfl⟩
theorem wl_207 : Cond.methodLink RL 207 yX12_undo ∈ wU := wU_mem (List.mem_append_right _ (List.mem_append_right _ (List.mem_append_right _ (List.mem_append_right _ (List.mem_append_right _ (List.mem_append_right _ (List.mem_append_right _ (List.mem_append_right _ (List.mem_append_right _ (List.mem_of_getElem? (l := tables_1_9) (i := 22) (by decide +kernel))))))))))) (by decide +kernel)
theorem case_undo (C : Cl x) (hi : i + 6 ≤ lxL x) (hcs : cells ≤ room_1.cells ∧ slots ≤ room_1.slots) (R : RR S t hc hm) (Kk : ∀ S t hc' hm', RR S t hc' hm' → LG x 1806 (Vs x i) [] hc' hm' f cells slots) : LG x 1742 (Vs x i) [] hc hm f cells slots := by
  obtain ⟨S', t', r, c', m', e1, e2, R'⟩ := r_undo R
  refine l_aload C dL_law_1742 rfl (q := 3) rfl ?_
  refine l_callC (As := []) (n := 0) C dL_law_1743 wl_204 yw_f11_undo ⟨rfl, rfl⟩ ⟨Nat.le_of_ble_eq_true rfl, Nat.le_of_ble_eq_true rfl⟩ hcs rfl rfl (fun _ => rfl) (Nat.le_of_ble_eq_true rfl) rfl (ok_f11_undo (K := fun z => z = (r, c'))  hc ⟨_, e1, rfl⟩) (fun _ _ ad hp => pw_int ad hp) (fun r1 h1 hp1 => ?_)
  obtain ⟨v1, rfl, hv1⟩ := hp1
  obtain ⟨rfl, rfl⟩ := Prod.mk.inj hv1
  refine l_st (st' := [.int _]) rfl ?_
  refine l_aload C dL_law_1746 rfl (q := 2) rfl ?_
  refine l_callM (As := []) (n := 0) C dL_law_1747 wl_207 yw_f12_undo ⟨rfl, rfl⟩ ⟨Nat.le_of_ble_eq_true rfl, Nat.le_of_ble_eq_true rfl⟩ hcs rfl rfl (fun _ => rfl) (Nat.le_of_ble_eq_true rfl) rfl (ok_f12_undo (K := fun z => z = (_, m'))  hm ⟨_, e2, rfl⟩) (fun _ _ ad hp => pw_int ad hp) (fun r1 h1 hp1 => ?_)
  obtain ⟨v2, rfl, hv2⟩ := hp1
  obtain ⟨rfl, rfl⟩ := Prod.mk.inj hv2
  refine l_st (st' := [.int _, .int _]) rfl ?_
  refine l_eq (tgt := 1806) C dL_law_1750 (by decide) rfl ?_
  exact Kk _ _ _ _ R'
theorem wi_f11_keep : Cond.instanceMethod yX11_keep ∈ wU := wU_mem (List.mem_append_right _ (List.mem_append_right _ (List.mem_append_right _ (List.mem_append_right _ (List.mem_append_right _ (List.mem_append_left _ (List.mem_of_getElem? (l := tables_1_5) (i := 150) (by decide +kernel)))))))) (by decide +kernel)
theorem wc_f11_keep : Cond.code yX11_keep cX11_keep 1 (some .int) ∈ wU := wU_mem (List.mem_append_right _ (List.mem_append_right _ (List.mem_append_right _ (List.mem_append_right _ (List.mem_append_right _ (List.mem_append_left _ (List.mem_of_getElem? (l := tables_1_5) (i := 152) (by decide +kernel)))))))) (by decide +kernel)
theorem wse_f11_keep : Cond.selects RX11 yX11_keep yX11_keep ∈ wU := wU_mem (List.mem_append_right _ (List.mem_append_right _ (List.mem_append_right _ (List.mem_append_right _ (List.mem_append_right _ (List.mem_append_left _ (List.mem_of_getElem? (l := tables_1_5) (i := 151) (by decide +kernel)))))))) (by decide +kernel)
theorem yw_f11_keep : Yv yX11_keep RX11 11 cX11_keep 1 (some .int) 0 := ⟨wi_f11_keep, wse_f11_keep, in_X11, wc_f11_keep, by decide +kernel, Nat.le_of_ble_eq_true rfl, _, rfl, rfl⟩
theorem wl_208 : Cond.methodLink RL 208 yX11_keep ∈ wU := wU_mem (List.mem_append_right _ (List.mem_append_right _ (List.mem_append_right _ (List.mem_append_right _ (List.mem_append_right _ (List.mem_append_left _ (List.mem_of_getElem? (l := tables_1_5) (i := 149) (by decide +kernel)))))))) (by decide +kernel)
theorem wi_f12_keep : Cond.instanceMethod yX12_keep ∈ wU := wU_mem (List.mem_append_right _ (List.mem_append_right _ (List.mem_append_right _ (List.mem_append_right _ (List.mem_append_right _ (List.mem_append_right _ (List.mem_append_right _ (List.mem_append_right _ (List.mem_append_right _ (List.mem_of_getElem? (l := tables_1_9) (i := 31) (by decide +kernel))))))))))) (by decide +kernel)
theorem wc_f12_keep : Cond.code yX12_keep cX12_keep 2 (some .int) ∈ wU := wU_mem (List.mem_append_right _ (List.mem_append_right _ (List.mem_append_right _ (List.mem_append_right _ (List.mem_append_right _ (List.mem_append_right _ (List.mem_append_right _ (List.mem_append_right _ (List.mem_append_right _ (List.mem_of_getElem? (l := tables_1_9) (i := 33) (by decide +kernel))))))))))) (by decide +kernel)
theorem wse_f12_keep : Cond.selects RX12 yX12_keep yX12_keep ∈ wU := wU_mem (List.mem_append_right _ (List.mem_append_right _ (List.mem_append_right _ (List.mem_append_right _ (List.mem_append_right _ (List.mem_append_right _ (List.mem_append_right _ (List.mem_append_right _ (List.mem_append_right _ (List.mem_of_getElem? (l := tables_1_9) (i := 32) (by decide +kernel))))))))))) (by decide +kernel)
theorem yw_f12_keep : Yv yX12_keep RX12 12 cX12_keep 2 (some .int) 0 := ⟨wi_f12_keep, wse_f12_keep, in_X12, wc_f12_keep, by decide +kernel, Nat.le_of_ble_eq_true rfl, _, rfl, rfl⟩
theorem wl_211 : Cond.methodLink RL 211 yX12_keep ∈ wU := wU_mem (List.mem_append_right _ (List.mem_append_right _ (List.mem_append_right _ (List.mem_append_right _ (List.mem_append_right _ (List.mem_append_right _ (List.mem_append_right _ (List.mem_append_right _ (List.mem_append_right _ (List.mem_of_getElem? (l := tables_1_9) (i := 30) (by decide +kernel))))))))))) (by decide +kernel)
theorem case_keep (C : Cl x) (hi : i + 6 ≤ lxL x) (hcs : cells ≤ room_1.cells ∧ slots ≤ room_1.slots) (R : RR S t hc hm) (Kk : ∀ S t hc' hm', RR S t hc' hm' → LG x 1806 (Vs x i) [] hc' hm' f cells slots) : LG x 1755 (Vs x i) [] hc hm f cells slots := by
  obtain ⟨S', t', r, c', m', e1, e2, R'⟩ := r_keep R
  refine l_aload C dL_law_1755 rfl (q := 3) rfl ?_
  refine l_callC (As := []) (n := 0) C dL_law_1756 wl_208 yw_f11_keep ⟨rfl, rfl⟩ ⟨Nat.le_of_ble_eq_true rfl, Nat.le_of_ble_eq_true rfl⟩ hcs rfl rfl (fun _ => rfl) (Nat.le_of_ble_eq_true rfl) rfl (ok_f11_keep (K := fun z => z = (r, c'))  hc ⟨_, e1, rfl⟩) (fun _ _ ad hp => pw_int ad hp) (fun r1 h1 hp1 => ?_)
  obtain ⟨v1, rfl, hv1⟩ := hp1
  obtain ⟨rfl, rfl⟩ := Prod.mk.inj hv1
  refine l_st (st' := [.int _]) rfl ?_
  refine l_aload C dL_law_1759 rfl (q := 2) rfl ?_
  refine l_callM (As := []) (n := 0) C dL_law_1760 wl_211 yw_f12_keep ⟨rfl, rfl⟩ ⟨Nat.le_of_ble_eq_true rfl, Nat.le_of_ble_eq_true rfl⟩ hcs rfl rfl (fun _ => rfl) (Nat.le_of_ble_eq_true rfl) rfl (ok_f12_keep (K := fun z => z = (_, m'))  hm ⟨_, e2, rfl⟩) (fun _ _ ad hp => pw_int ad hp) (fun r1 h1 hp1 => ?_)
  obtain ⟨v2, rfl, hv2⟩ := hp1
  obtain ⟨rfl, rfl⟩ := Prod.mk.inj hv2
  refine l_st (st' := [.int _, .int _]) rfl ?_
  refine l_eq (tgt := 1806) C dL_law_1763 (by decide) rfl ?_
  exact Kk _ _ _ _ R'
theorem wi_f11_back : Cond.instanceMethod yX11_back ∈ wU := wU_mem (List.mem_append_right _ (List.mem_append_right _ (List.mem_append_right _ (List.mem_append_right _ (List.mem_append_right _ (List.mem_append_left _ (List.mem_of_getElem? (l := tables_1_5) (i := 158) (by decide +kernel)))))))) (by decide +kernel)
theorem wc_f11_back : Cond.code yX11_back cX11_back 1 (some .int) ∈ wU := wU_mem (List.mem_append_right _ (List.mem_append_right _ (List.mem_append_right _ (List.mem_append_right _ (List.mem_append_right _ (List.mem_append_left _ (List.mem_of_getElem? (l := tables_1_5) (i := 160) (by decide +kernel)))))))) (by decide +kernel)
theorem wse_f11_back : Cond.selects RX11 yX11_back yX11_back ∈ wU := wU_mem (List.mem_append_right _ (List.mem_append_right _ (List.mem_append_right _ (List.mem_append_right _ (List.mem_append_right _ (List.mem_append_left _ (List.mem_of_getElem? (l := tables_1_5) (i := 159) (by decide +kernel)))))))) (by decide +kernel)
theorem yw_f11_back : Yv yX11_back RX11 11 cX11_back 1 (some .int) 0 := ⟨wi_f11_back, wse_f11_back, in_X11, wc_f11_back, by decide +kernel, Nat.le_of_ble_eq_true rfl, _, rfl, rfl⟩
theorem wl_212 : Cond.methodLink RL 212 yX11_back ∈ wU := wU_mem (List.mem_append_right _ (List.mem_append_right _ (List.mem_append_right _ (List.mem_append_right _ (List.mem_append_right _ (List.mem_append_left _ (List.mem_of_getElem? (l := tables_1_5) (i := 157) (by decide +kernel)))))))) (by decide +kernel)
theorem wi_f12_back : Cond.instanceMethod yX12_back ∈ wU := wU_mem (List.mem_append_right _ (List.mem_append_right _ (List.mem_append_right _ (List.mem_append_right _ (List.mem_append_right _ (List.mem_append_right _ (List.mem_append_right _ (List.mem_append_right _ (List.mem_append_right _ (List.mem_of_getElem? (l := tables_1_9) (i := 35) (by decide +kernel))))))))))) (by decide +kernel)
theorem wc_f12_back : Cond.code yX12_back cX12_back 2 (some .int) ∈ wU := wU_mem (List.mem_append_right _ (List.mem_append_right _ (List.mem_append_right _ (List.mem_append_right _ (List.mem_append_right _ (List.mem_append_right _ (List.mem_append_right _ (List.mem_append_right _ (List.mem_append_right _ (List.mem_of_getElem? (l := tables_1_9) (i := 37) (by decide +kernel))))))))))) (by decide +kernel)
theorem wse_f12_back : Cond.selects RX12 yX12_back yX12_back ∈ wU := wU_mem (List.mem_append_right _ (List.mem_append_right _ (List.mem_append_right _ (List.mem_append_right _ (List.mem_append_right _ (List.mem_append_right _ (List.mem_append_right _ (List.mem_append_right _ (List.mem_append_right _ (List.mem_of_getElem? (l := tables_1_9) (i := 36) (by decide +kernel))))))))))) (by decide +kernel)
theorem yw_f12_back : Yv yX12_back RX12 12 cX12_back 2 (some .int) 0 := ⟨wi_f12_back, wse_f12_back, in_X12, wc_f12_back, by decide +kernel, Nat.le_of_ble_eq_true rfl, _, rfl, rfl⟩
theorem wl_215 : Cond.methodLink RL 215 yX12_back ∈ wU := wU_mem (List.mem_append_right _ (List.mem_append_right _ (List.mem_append_right _ (List.mem_append_right _ (List.mem_append_right _ (List.mem_append_right _ (List.mem_append_right _ (List.mem_append_right _ (List.mem_append_right _ (List.mem_of_getElem? (l := tables_1_9) (i := 34) (by decide +kernel))))))))))) (by decide +kernel)
theorem case_back (C : Cl x) (hi : i + 6 ≤ lxL x) (hcs : cells ≤ room_1.cells ∧ slots ≤ room_1.slots) (R : RR S t hc hm) (Kk : ∀ S t hc' hm', RR S t hc' hm' → LG x 1806 (Vs x i) [] hc' hm' f cells slots) : LG x 1768 (Vs x i) [] hc hm f cells slots := by
  obtain ⟨S', t', r, c', m', e1, e2, R'⟩ := r_back R
  refine l_aload C dL_law_1768 rfl (q := 3) rfl ?_
  refine l_callC (As := []) (n := 0) C dL_law_1769 wl_212 yw_f11_back ⟨rfl, rfl⟩ ⟨Nat.le_of_ble_eq_true rfl, Nat.le_of_ble_eq_true rfl⟩ hcs rfl rfl (fun _ => rfl) (Nat.le_of_ble_eq_true rfl) rfl (ok_f11_back (K := fun z => z = (r, c'))  hc ⟨_, e1, rfl⟩) (fun _ _ ad hp => pw_int ad hp) (fun r1 h1 hp1 => ?_)
  obtain ⟨v1, rfl, hv1⟩ := hp1
  obtain ⟨rfl, rfl⟩ := Prod.mk.inj hv1
  refine l_st (st' := [.int _]) rfl ?_
  refine l_aload C dL_law_1772 rfl (q := 2) rfl ?_
  refine l_callM (As := []) (n := 0) C dL_law_1773 wl_215 yw_f12_back ⟨rfl, rfl⟩ ⟨Nat.le_of_ble_eq_true rfl, Nat.le_of_ble_eq_true rfl⟩ hcs rfl rfl (fun _ => rfl) (Nat.le_of_ble_eq_true rfl) rfl (ok_f12_back (K := fun z => z = (_, m'))  hm ⟨_, e2, rfl⟩) (fun _ _ ad hp => pw_int ad hp) (fun r1 h1 hp1 => ?_)
  obtain ⟨v2, rfl, hv2⟩ := hp1
  obtain ⟨rfl, rfl⟩ := Prod.mk.inj hv2
  refine l_st (st' := [.int _, .int _]) rfl ?_
  refine l_eq (tgt := 1806) C dL_law_1776 (by decide) rfl ?_
  exact Kk _ _ _ _ R'
theorem wi_f11_count : Cond.instanceMethod yX11_count ∈ wU := wU_mem (List.mem_append_right _ (List.mem_append_right _ (List.mem_append_right _ (List.mem_append_right _ (List.mem_append_right _ (List.mem_append_left _ (List.mem_of_getElem? (l := tables_1_5) (i := 162) (by decide +kernel)))))))) (by decide +kernel)
theorem wc_f11_count : Cond.code yX11_count cX11_count 2 (some .int) ∈ wU := wU_mem (List.mem_append_right _ (List.mem_append_right _ (List.mem_append_right _ (List.mem_append_right _ (List.mem_append_right _ (List.mem_append_left _ (List.mem_of_getElem? (l := tables_1_5) (i := 164) (by decide +kernel)))))))) (by decide +kernel)
theorem wse_f11_count : Cond.selects RX11 yX11_count yX11_count ∈ wU := wU_mem (List.mem_append_right _ (List.mem_append_right _ (List.mem_append_right _ (List.mem_append_right _ (List.mem_append_right _ (List.mem_append_left _ (List.mem_of_getElem? (l := tables_1_5) (i := 163) (by decide +kernel)))))))) (by decide +kernel)
theorem yw_f11_count : Yv yX11_count RX11 11 cX11_count 2 (some .int) 1 := ⟨wi_f11_count, wse_f11_count, in_X11, wc_f11_count, by decide +kernel, Nat.le_of_ble_eq_true rfl, _, rfl, rfl⟩
theorem wl_216 : Cond.methodLink RL 216 yX11_count ∈ wU := wU_mem (List.mem_append_right _ (List.mem_append_right _ (List.mem_append_right _ (List.mem_append_right _ (List.mem_append_right _ (List.mem_append_left _ (List.mem_of_getElem? (l := tables_1_5) (i := 161) (by decide +kernel)))))))) (by decide +kernel)
theorem wi_f12_count : Cond.instanceMethod yX12_count ∈ wU := wU_mem (List.mem_append_right _ (List.mem_append_right _ (List.mem_append_right _ (List.mem_append_right _ (List.mem_append_right _ (List.mem_append_right _ (List.mem_append_right _ (List.mem_append_right _ (List.mem_append_right _ (List.mem_of_getElem? (l := tables_1_9) (i := 39) (by decide +kernel))))))))))) (by decide +kernel)
theorem wc_f12_count : Cond.code yX12_count cX12_count 4 (some .int) ∈ wU := wU_mem (List.mem_append_right _ (List.mem_append_right _ (List.mem_append_right _ (List.mem_append_right _ (List.mem_append_right _ (List.mem_append_right _ (List.mem_append_right _ (List.mem_append_right _ (List.mem_append_right _ (List.mem_of_getElem? (l := tables_1_9) (i := 41) (by decide +kernel))))))))))) (by decide +kernel)
theorem wse_f12_count : Cond.selects RX12 yX12_count yX12_count ∈ wU := wU_mem (List.mem_append_right _ (List.mem_append_right _ (List.mem_append_right _ (List.mem_append_right _ (List.mem_append_right _ (List.mem_append_right _ (List.mem_append_right _ (List.mem_append_right _ (List.mem_append_right _ (List.mem_of_getElem? (l := tables_1_9) (i := 40) (by decide +kernel))))))))))) (by decide +kernel)
theorem yw_f12_count : Yv yX12_count RX12 12 cX12_count 4 (some .int) 1 := ⟨wi_f12_count, wse_f12_count, in_X12, wc_f12_count, by decide +kernel, Nat.le_of_ble_eq_true rfl, _, rfl, rfl⟩
theorem wl_219 : Cond.methodLink RL 219 yX12_count ∈ wU := wU_mem (List.mem_append_right _ (List.mem_append_right _ (List.mem_append_right _ (List.mem_append_right _ (List.mem_append_right _ (List.mem_append_right _ (List.mem_append_right _ (List.mem_append_right _ (List.mem_append_right _ (List.mem_of_getElem? (l := tables_1_9) (i := 38) (by decide +kernel))))))))))) (by decide +kernel)
theorem case_count (C : Cl x) (hi : i + 6 ≤ lxL x) (hcs : cells ≤ room_1.cells ∧ slots ≤ room_1.slots) (R : RR S t hc hm) (Kk : ∀ S t hc' hm', RR S t hc' hm' → LG x 1806 (Vs x i) [] hc' hm' f cells slots) : LG x 1781 (Vs x i) [] hc hm f cells slots := by
  obtain ⟨r, m', e1, e2, R'⟩ := r_count R (lxX x (i + 1))
  refine l_aload C dL_law_1781 rfl (q := 3) rfl ?_
  refine l_arg (j := 1) (n := 1) C hi (by decide) rfl dL_law_1782 dL_law_1783 dL_law_1785 dL_law_1786 dL_law_1787 ?_
  refine l_callC (As := [.int (lxX x (i + 1))]) (n := 1) C dL_law_1788 wl_216 yw_f11_count ⟨rfl, rfl⟩ ⟨Nat.le_of_ble_eq_true rfl, Nat.le_of_ble_eq_true rfl⟩ hcs rfl rfl (fun _ => rfl) (Nat.le_of_ble_eq_true rfl) rfl (ok_f11_count (K := fun z => z = r) _ hc ⟨_, e1, rfl⟩) (fun _ _ ad hp => ps_int ad hp) (fun r1 h1 hp1 => ?_)
  obtain ⟨v1, rfl, rfl, rfl⟩ := hp1
  refine l_st (st' := [.int _]) rfl ?_
  refine l_aload C dL_law_1791 rfl (q := 2) rfl ?_
  refine l_arg (j := 1) (n := 1) C hi (by decide) rfl dL_law_1792 dL_law_1793 dL_law_1795 dL_law_1796 dL_law_1797 ?_
  refine l_callM (As := [.int (lxX x (i + 1))]) (n := 1) C dL_law_1798 wl_219 yw_f12_count ⟨rfl, rfl⟩ ⟨Nat.le_of_ble_eq_true rfl, Nat.le_of_ble_eq_true rfl⟩ hcs rfl rfl (fun _ => rfl) (Nat.le_of_ble_eq_true rfl) rfl (ok_f12_count (K := fun z => z = (_, m')) _ hm ⟨_, e2, rfl⟩) (fun _ _ ad hp => pw_int ad hp) (fun r1 h1 hp1 => ?_)
  obtain ⟨v2, rfl, hv2⟩ := hp1
  obtain ⟨rfl, rfl⟩ := Prod.mk.inj hv2
  refine l_st (st' := [.int _, .int _]) rfl ?_
  refine l_eq (tgt := 1806) C dL_law_1801 (by decide) rfl ?_
  exact Kk _ _ _ _ R'
end CASES
