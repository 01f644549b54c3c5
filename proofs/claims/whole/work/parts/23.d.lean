/-! The law's cases. -/
theorem lw_type : lCallS 190 yLaw_type cLaw_type 4 (lHh [1, 2] 9 (fun j => ([12, 15] : List Nat).getD j 0)) 3 := ⟨⟨wl_in (i := 516) (by decide +kernel), wl_in (i := 517) (by decide +kernel), wl_in (i := 0) (by decide +kernel), wl_in (i := 518) (by decide +kernel)⟩, by decide, by decide, by decide +kernel⟩
theorem mwl_type : cCallV RV 195 RX12 yX12_type cX12_type 2 (some .int) 1 := ⟨⟨wl_in (i := 2010) (by decide +kernel), wl_in (i := 2011) (by decide +kernel), wl_in (i := 2012) (by decide +kernel), wl_in (i := 16) (by decide +kernel), wl_in (i := 2013) (by decide +kernel)⟩, rfl, by decide, by decide, by decide +kernel⟩
theorem mwl_thrown : cCallV RV 196 RX12 yX12_thrown cX12_thrown 1 (some .int) 0 := ⟨⟨wl_in (i := 2006) (by decide +kernel), wl_in (i := 2007) (by decide +kernel), wl_in (i := 2008) (by decide +kernel), wl_in (i := 16) (by decide +kernel), wl_in (i := 2009) (by decide +kernel)⟩, rfl, by decide, by decide, by decide +kernel⟩
set_option maxHeartbeats 4000000 in
set_option maxRecDepth 100000 in
theorem lc_type {p : Program} {l : Launch} {e : Env} {s : State} {m : MethodId} {below : List Frame} {meth : Method} {c : Code} {H : Heap} {locs : List Loc} {cells slots : Nat} {Q : State → Prop} {b L : Nat} {xs : Nat → Int32} {ls : Array Slot} {D Dm : va_G} {ca cm : Nat → ClassId} {cO cOd : ClassId} {α0 α : cAl} {lo hm hi bo bd : Nat} {μ : Nat → Nat} {g : Gm} {σ : cS} {τ : mS} {f : Nat → Int64} {fd : Nat → UInt64} {i : Nat} (hst : l.stackTraces = false) (hL : L ≤ 2560) (X : lX p s m c b L xs D Dm ca cm cO cOd α0 lo hm hi bo bd) (J : lJ s D Dm ca cm cO cOd α0 lo hm hi bo bd μ σ τ α f fd H locs) (hR : Rel g σ τ) (h5 : i + 5 ≤ L) (hl : lv_has ls 9 [(0, .ref b), (1, .ref (α0 0 0)), (2, .ref (μ 0)), (3, .ref bo), (4, .ref bd), (5, .int (nI i))]) (hcl : cells + 12 ≤ room_1.cells) (hsl : slots + 700 ≤ room_1.slots)
    (kk : ∀ (g' : Gm) (σ' : cS) (τ' : mS) (α' : cAl) (f' : Nat → Int64) (fd' : Nat → UInt64) (H' : Heap) (locs' : List Loc) (ls' : Array Slot), Rel g' σ' τ' → lJ s D Dm ca cm cO cOd α0 lo hm hi bo bd μ σ' τ' α' f' fd' H' locs' → lv_has ls' 9 [(0, .ref b), (1, .ref (α0 0 0)), (2, .ref (μ 0)), (3, .ref bo), (4, .ref bd), (5, .int (nI i))] → W p l e room_1 s m #[Value.ref b] below meth c H' locs' (cells + 12) (slots + 700) Q (F0 m 3212 ls' [])) :
    W p l e room_1 s m #[Value.ref b] below meth c H locs cells slots Q (F0 m 276 ls []) := by
  obtain ⟨hx, hb, -, -, -⟩ := id X.1
  obtain ⟨hbo, -⟩ := l_nbo X
  obtain ⟨h17, -⟩ := l_n17 X J
  obtain ⟨c1, hc1, e1⟩ := l_char (xs (i + 1))
  obtain ⟨g1, r, σ1, v, τ2, hfc, hfm, hagr, hR1⟩ := meth_type hR hc1
  obtain ⟨j, hj1, hth, hrr⟩ := hagr.use (by decide)
  refine lv_aload_n hx hb dLaw_law_276 rfl (lv_at hl 1 rfl) ?_
  refine l_arg (i := i) (k := 1) X J.2.2.2.1 hL (by omega) (by decide) (lv_at hl 0 rfl) (lv_at hl 5 rfl) dLaw_law_277 dLaw_law_278 dLaw_law_280 dLaw_law_281 dLaw_law_282 ?_
  refine lv_i2c hx hb dLaw_law_283 e1 ?_
  refine lv_aload_n hx hb dLaw_law_284 rfl (lv_at hl 3 rfl) ?_
  refine l_wr (As := [.int (nI c1), .ref bo]) (rest := []) X J (cv_type l hst D ca (lA s.heap.size lo hi) bo cO α σ f hbo h17 (nI c1) (r, σ1) hfc j hj1) lw_type ⟨rfl, rfl⟩ ⟨Nat.le_of_ble_eq_true rfl, Nat.le_of_ble_eq_true rfl⟩ rfl rfl (cats_le _ (Nat.le_of_ble_eq_true rfl)) hl.1 dLaw_law_285 ⟨Nat.le_trans (Nat.add_le_add_left (Nat.le_of_ble_eq_true rfl) _) hcl, Nat.le_trans (Nat.add_le_add_left (Nat.le_of_ble_eq_true rfl) _) hsl⟩ (fun α1 H1 locs1 J1 => ?_)
  refine lv_istore (lv' := [(6, .int (nI (lK j r))), (0, .ref b), (1, .ref (α0 0 0)), (2, .ref (μ 0)), (3, .ref bo), (4, .ref bd), (5, .int (nI i))]) hx hb dLaw_law_288 hl (by decide) rfl (fun ls hl => ?_)
  refine lv_aload_n hx hb dLaw_law_290 rfl (lv_at hl 3 rfl) ?_
  refine l_arg (i := i) (k := 1) X J1.2.2.2.1 hL (by omega) (by decide) (lv_at hl 1 rfl) (lv_at hl 6 rfl) dLaw_law_291 dLaw_law_292 dLaw_law_294 dLaw_law_295 dLaw_law_296 ?_
  refine lv_i2c hx hb dLaw_law_297 e1 ?_
  refine l_modI (As := [.int (nI c1)]) (rest := []) X J1 (cm_type l Dm cm μ (lB lo hm) τ (nI c1) (v, τ2) hfm) mwl_type ⟨rfl, rfl⟩ ⟨Nat.le_of_ble_eq_true rfl, Nat.le_of_ble_eq_true rfl⟩ rfl rfl (cats_le _ (Nat.le_of_ble_eq_true rfl)) hl.1 dLaw_law_298 ⟨Nat.le_trans (Nat.add_le_add_left (Nat.le_of_ble_eq_true rfl) _) hcl, Nat.le_trans (Nat.add_le_add_left (Nat.le_of_ble_eq_true rfl) _) hsl⟩ (fun H2 locs2 J2 => ?_)
  refine lv_istore (lv' := [(7, .int v), (6, .int (nI (lK j r))), (0, .ref b), (1, .ref (α0 0 0)), (2, .ref (μ 0)), (3, .ref bo), (4, .ref bd), (5, .int (nI i))]) hx hb dLaw_law_301 hl (by decide) rfl (fun ls hl => ?_)
  refine lv_aload_n hx hb dLaw_law_303 rfl (lv_at hl 4 rfl) ?_
  refine l_modI (As := []) (rest := []) X J2 (cm_thrown l Dm cm μ (lB lo hm) τ2 (τ2.1 0, τ2) rfl) mwl_thrown ⟨rfl, rfl⟩ ⟨Nat.le_of_ble_eq_true rfl, Nat.le_of_ble_eq_true rfl⟩ rfl rfl (cats_le _ (Nat.le_of_ble_eq_true rfl)) hl.1 dLaw_law_304 ⟨Nat.le_trans (Nat.add_le_add_left (Nat.le_of_ble_eq_true rfl) _) hcl, Nat.le_trans (Nat.add_le_add_left (Nat.le_of_ble_eq_true rfl) _) hsl⟩ (fun H3 locs3 J3 => ?_)
  refine lv_iload hx hb dLaw_law_307 (lv_at hl 1 rfl) ?_
  refine lv_icmp_eq (tgt := 314) hx hb dLaw_law_309 (by decide) (fun _ => ?_) (fun q => absurd hth q)
  refine lv_iload hx hb dLaw_law_314 (lv_at hl 1 rfl) ?_
  have fin : W p l e room_1 s m #[Value.ref b] below meth c H3 locs3 (cells + 12) (slots + 700) Q (F0 m 3212 ls []) := kk g1 σ1 τ2 α1 _ fd H3 locs3 ls hR1 J3 (lv_sub hl [2, 3, 4, 5, 6, 7] rfl)
  refine W.widen (k := cells + 12) (n := slots + 700) (Nat.add_le_add_left (Nat.le_of_ble_eq_true rfl) _) (Nat.add_le_add_left (Nat.le_of_ble_eq_true rfl) _) ?_
  refine lv_if_ne (tgt := 331) hx hb dLaw_law_316 (by decide) (fun q => ?_) (fun q => ?_)
  · refine lv_goto (tgt := 3212) hx hb dLaw_law_331 (by decide) ?_
    exact fin
  · rcases hrr with ⟨k0, rfl⟩ | ⟨k0, k1⟩
    · refine lv_aload_n hx hb dLaw_law_319 rfl (lv_at hl 5 rfl) ?_
      refine lv_iconst (v := (0 : Int32)) hx hb dLaw_law_320 (by decide) ?_
      refine va_lald hx hb X.2.2.1.2.2.1 J3.2.2.1.1 0 0 rfl rfl vp01 dLaw_law_321 ?_
      refine lv_iload hx hb dLaw_law_322 (lv_at hl 0 rfl) ?_
      refine lv_i2l hx hb dLaw_law_324 rfl ?_
      refine W.lcmp hx hb dLaw_law_325 ?_
      refine lv_if_eq (tgt := 331) hx hb dLaw_law_326 (by decide) (fun _ => ?_) (fun q => absurd (lg0.mpr (rfl)) q)
      refine lv_goto (tgt := 3212) hx hb dLaw_law_331 (by decide) ?_
      exact fin
    · exact absurd q (nz_k k0 k1)
theorem lw_room : lCallS 207 yLaw_room cLaw_room 4 (lHh [2] 9 (fun j => ([12] : List Nat).getD j 0)) 3 := ⟨⟨wl_in (i := 655) (by decide +kernel), wl_in (i := 656) (by decide +kernel), wl_in (i := 0) (by decide +kernel), wl_in (i := 657) (by decide +kernel)⟩, by decide, by decide, by decide +kernel⟩
theorem mwl_room : cCallV RV 210 RX12 yX12_room cX12_room 3 (some .int) 1 := ⟨⟨wl_in (i := 2037) (by decide +kernel), wl_in (i := 2038) (by decide +kernel), wl_in (i := 2039) (by decide +kernel), wl_in (i := 16) (by decide +kernel), wl_in (i := 2040) (by decide +kernel)⟩, rfl, by decide, by decide, by decide +kernel⟩
set_option maxHeartbeats 4000000 in
set_option maxRecDepth 100000 in
theorem lc_room {p : Program} {l : Launch} {e : Env} {s : State} {m : MethodId} {below : List Frame} {meth : Method} {c : Code} {H : Heap} {locs : List Loc} {cells slots : Nat} {Q : State → Prop} {b L : Nat} {xs : Nat → Int32} {ls : Array Slot} {D Dm : va_G} {ca cm : Nat → ClassId} {cO cOd : ClassId} {α0 α : cAl} {lo hm hi bo bd : Nat} {μ : Nat → Nat} {g : Gm} {σ : cS} {τ : mS} {f : Nat → Int64} {fd : Nat → UInt64} {i : Nat} (hst : l.stackTraces = false) (hL : L ≤ 2560) (X : lX p s m c b L xs D Dm ca cm cO cOd α0 lo hm hi bo bd) (J : lJ s D Dm ca cm cO cOd α0 lo hm hi bo bd μ σ τ α f fd H locs) (hR : Rel g σ τ) (h5 : i + 5 ≤ L) (hl : lv_has ls 9 [(0, .ref b), (1, .ref (α0 0 0)), (2, .ref (μ 0)), (3, .ref bo), (4, .ref bd), (5, .int (nI i))]) (hcl : cells + 12 ≤ room_1.cells) (hsl : slots + 700 ≤ room_1.slots)
    (kk : ∀ (g' : Gm) (σ' : cS) (τ' : mS) (α' : cAl) (f' : Nat → Int64) (fd' : Nat → UInt64) (H' : Heap) (locs' : List Loc) (ls' : Array Slot), Rel g' σ' τ' → lJ s D Dm ca cm cO cOd α0 lo hm hi bo bd μ σ' τ' α' f' fd' H' locs' → lv_has ls' 9 [(0, .ref b), (1, .ref (α0 0 0)), (2, .ref (μ 0)), (3, .ref bo), (4, .ref bd), (5, .int (nI i))] → W p l e room_1 s m #[Value.ref b] below meth c H' locs' (cells + 12) (slots + 700) Q (F0 m 3212 ls' [])) :
    W p l e room_1 s m #[Value.ref b] below meth c H locs cells slots Q (F0 m 391 ls []) := by
  obtain ⟨hx, hb, -, -, -⟩ := id X.1
  obtain ⟨hbo, -⟩ := l_nbo X
  obtain ⟨h17, -⟩ := l_n17 X J
  obtain ⟨g1, r, σ1, v, τ2, hfc, hfm, hagr, hR1⟩ := meth_room hR (decide (xs (i + 1) ≠ 0))
  obtain ⟨j, hj1, hth, hrr⟩ := hagr.use (by decide)
  refine lv_aload_n hx hb dLaw_law_391 rfl (lv_at hl 1 rfl) ?_
  refine l_arg (i := i) (k := 1) X J.2.2.2.1 hL (by omega) (by decide) (lv_at hl 0 rfl) (lv_at hl 5 rfl) dLaw_law_392 dLaw_law_393 dLaw_law_395 dLaw_law_396 dLaw_law_397 ?_
  refine l_bool hx hb dLaw_law_398 dLaw_law_401 dLaw_law_402 dLaw_law_405 ?_
  refine lv_aload_n hx hb dLaw_law_406 rfl (lv_at hl 3 rfl) ?_
  refine l_wr (As := [.int (bI (decide (xs (i + 1) ≠ 0))), .ref bo]) (rest := []) X J (cv_room l hst D ca (lA s.heap.size lo hi) bo cO α σ f hbo h17 (bI (decide (xs (i + 1) ≠ 0))) (r, σ1) hfc j hj1) lw_room ⟨rfl, rfl⟩ ⟨Nat.le_of_ble_eq_true rfl, Nat.le_of_ble_eq_true rfl⟩ rfl rfl (cats_le _ (Nat.le_of_ble_eq_true rfl)) hl.1 dLaw_law_407 ⟨Nat.le_trans (Nat.add_le_add_left (Nat.le_of_ble_eq_true rfl) _) hcl, Nat.le_trans (Nat.add_le_add_left (Nat.le_of_ble_eq_true rfl) _) hsl⟩ (fun α1 H1 locs1 J1 => ?_)
  refine lv_istore (lv' := [(6, .int (nI (lK j r))), (0, .ref b), (1, .ref (α0 0 0)), (2, .ref (μ 0)), (3, .ref bo), (4, .ref bd), (5, .int (nI i))]) hx hb dLaw_law_410 hl (by decide) rfl (fun ls hl => ?_)
  refine lv_aload_n hx hb dLaw_law_412 rfl (lv_at hl 3 rfl) ?_
  refine l_arg (i := i) (k := 1) X J1.2.2.2.1 hL (by omega) (by decide) (lv_at hl 1 rfl) (lv_at hl 6 rfl) dLaw_law_413 dLaw_law_414 dLaw_law_416 dLaw_law_417 dLaw_law_418 ?_
  refine l_bool hx hb dLaw_law_419 dLaw_law_422 dLaw_law_423 dLaw_law_426 ?_
  refine l_modI (As := [.int (bI (decide (xs (i + 1) ≠ 0)))]) (rest := []) X J1 (cm_room l Dm cm μ (lB lo hm) τ (bI (decide (xs (i + 1) ≠ 0))) (v, τ2) hfm) mwl_room ⟨rfl, rfl⟩ ⟨Nat.le_of_ble_eq_true rfl, Nat.le_of_ble_eq_true rfl⟩ rfl rfl (cats_le _ (Nat.le_of_ble_eq_true rfl)) hl.1 dLaw_law_427 ⟨Nat.le_trans (Nat.add_le_add_left (Nat.le_of_ble_eq_true rfl) _) hcl, Nat.le_trans (Nat.add_le_add_left (Nat.le_of_ble_eq_true rfl) _) hsl⟩ (fun H2 locs2 J2 => ?_)
  refine lv_istore (lv' := [(7, .int v), (6, .int (nI (lK j r))), (0, .ref b), (1, .ref (α0 0 0)), (2, .ref (μ 0)), (3, .ref bo), (4, .ref bd), (5, .int (nI i))]) hx hb dLaw_law_430 hl (by decide) rfl (fun ls hl => ?_)
  refine lv_aload_n hx hb dLaw_law_432 rfl (lv_at hl 4 rfl) ?_
  refine l_modI (As := []) (rest := []) X J2 (cm_thrown l Dm cm μ (lB lo hm) τ2 (τ2.1 0, τ2) rfl) mwl_thrown ⟨rfl, rfl⟩ ⟨Nat.le_of_ble_eq_true rfl, Nat.le_of_ble_eq_true rfl⟩ rfl rfl (cats_le _ (Nat.le_of_ble_eq_true rfl)) hl.1 dLaw_law_433 ⟨Nat.le_trans (Nat.add_le_add_left (Nat.le_of_ble_eq_true rfl) _) hcl, Nat.le_trans (Nat.add_le_add_left (Nat.le_of_ble_eq_true rfl) _) hsl⟩ (fun H3 locs3 J3 => ?_)
  refine lv_iload hx hb dLaw_law_436 (lv_at hl 1 rfl) ?_
  refine lv_icmp_eq (tgt := 443) hx hb dLaw_law_438 (by decide) (fun _ => ?_) (fun q => absurd hth q)
  refine lv_iload hx hb dLaw_law_443 (lv_at hl 1 rfl) ?_
  have fin : W p l e room_1 s m #[Value.ref b] below meth c H3 locs3 (cells + 12) (slots + 700) Q (F0 m 3212 ls []) := kk g1 σ1 τ2 α1 _ fd H3 locs3 ls hR1 J3 (lv_sub hl [2, 3, 4, 5, 6, 7] rfl)
  refine W.widen (k := cells + 12) (n := slots + 700) (Nat.add_le_add_left (Nat.le_of_ble_eq_true rfl) _) (Nat.add_le_add_left (Nat.le_of_ble_eq_true rfl) _) ?_
  refine lv_if_ne (tgt := 460) hx hb dLaw_law_445 (by decide) (fun q => ?_) (fun q => ?_)
  · refine lv_goto (tgt := 3212) hx hb dLaw_law_460 (by decide) ?_
    exact fin
  · rcases hrr with ⟨k0, rfl⟩ | ⟨k0, k1⟩
    · refine lv_aload_n hx hb dLaw_law_448 rfl (lv_at hl 5 rfl) ?_
      refine lv_iconst (v := (0 : Int32)) hx hb dLaw_law_449 (by decide) ?_
      refine va_lald hx hb X.2.2.1.2.2.1 J3.2.2.1.1 0 0 rfl rfl vp01 dLaw_law_450 ?_
      refine lv_iload hx hb dLaw_law_451 (lv_at hl 0 rfl) ?_
      refine lv_i2l hx hb dLaw_law_453 rfl ?_
      refine W.lcmp hx hb dLaw_law_454 ?_
      refine lv_if_eq (tgt := 460) hx hb dLaw_law_455 (by decide) (fun _ => ?_) (fun q => absurd (lg0.mpr (rfl)) q)
      refine lv_goto (tgt := 3212) hx hb dLaw_law_460 (by decide) ?_
      exact fin
    · exact absurd q (nz_k k0 k1)
theorem lw_thing : lCallS 222 yLaw_thing cLaw_thing 7 (lHh [4, 1, 3, 2] 14 (fun j => ([17, 21, 25, 29] : List Nat).getD j 0)) 6 := ⟨⟨wl_in (i := 855) (by decide +kernel), wl_in (i := 856) (by decide +kernel), wl_in (i := 0) (by decide +kernel), wl_in (i := 857) (by decide +kernel)⟩, by decide, by decide, by decide +kernel⟩
theorem mwl_thing : cCallV RV 225 RX12 yX12_thing cX12_thing 5 (some .int) 4 := ⟨⟨wl_in (i := 2074) (by decide +kernel), wl_in (i := 2075) (by decide +kernel), wl_in (i := 2076) (by decide +kernel), wl_in (i := 16) (by decide +kernel), wl_in (i := 2077) (by decide +kernel)⟩, rfl, by decide, by decide, by decide +kernel⟩
set_option maxHeartbeats 4000000 in
set_option maxRecDepth 100000 in
theorem lc_thing {p : Program} {l : Launch} {e : Env} {s : State} {m : MethodId} {below : List Frame} {meth : Method} {c : Code} {H : Heap} {locs : List Loc} {cells slots : Nat} {Q : State → Prop} {b L : Nat} {xs : Nat → Int32} {ls : Array Slot} {D Dm : va_G} {ca cm : Nat → ClassId} {cO cOd : ClassId} {α0 α : cAl} {lo hm hi bo bd : Nat} {μ : Nat → Nat} {g : Gm} {σ : cS} {τ : mS} {f : Nat → Int64} {fd : Nat → UInt64} {i : Nat} (hst : l.stackTraces = false) (hL : L ≤ 2560) (X : lX p s m c b L xs D Dm ca cm cO cOd α0 lo hm hi bo bd) (J : lJ s D Dm ca cm cO cOd α0 lo hm hi bo bd μ σ τ α f fd H locs) (hR : Rel g σ τ) (h5 : i + 5 ≤ L) (hl : lv_has ls 9 [(0, .ref b), (1, .ref (α0 0 0)), (2, .ref (μ 0)), (3, .ref bo), (4, .ref bd), (5, .int (nI i))]) (hcl : cells + 12 ≤ room_1.cells) (hsl : slots + 700 ≤ room_1.slots)
    (kk : ∀ (g' : Gm) (σ' : cS) (τ' : mS) (α' : cAl) (f' : Nat → Int64) (fd' : Nat → UInt64) (H' : Heap) (locs' : List Loc) (ls' : Array Slot), Rel g' σ' τ' → lJ s D Dm ca cm cO cOd α0 lo hm hi bo bd μ σ' τ' α' f' fd' H' locs' → lv_has ls' 9 [(0, .ref b), (1, .ref (α0 0 0)), (2, .ref (μ 0)), (3, .ref bo), (4, .ref bd), (5, .int (nI i))] → W p l e room_1 s m #[Value.ref b] below meth c H' locs' (cells + 12) (slots + 700) Q (F0 m 3212 ls' [])) :
    W p l e room_1 s m #[Value.ref b] below meth c H locs cells slots Q (F0 m 695 ls []) := by
  obtain ⟨hx, hb, -, -, -⟩ := id X.1
  obtain ⟨hbo, -⟩ := l_nbo X
  obtain ⟨h17, -⟩ := l_n17 X J
  obtain ⟨c4, hc4, e4⟩ := l_char (xs (i + 4))
  obtain ⟨g1, r, σ1, v, τ2, hfc, hfm, hagr, hR1⟩ := meth_thing hR (xs (i + 1)) (xs (i + 2)) (xs (i + 3)) hc4
  obtain ⟨j, hj1, hth, hrr⟩ := hagr.use (by decide)
  refine lv_aload_n hx hb dLaw_law_695 rfl (lv_at hl 1 rfl) ?_
  refine l_arg (i := i) (k := 1) X J.2.2.2.1 hL (by omega) (by decide) (lv_at hl 0 rfl) (lv_at hl 5 rfl) dLaw_law_696 dLaw_law_697 dLaw_law_699 dLaw_law_700 dLaw_law_701 ?_
  refine l_arg (i := i) (k := 2) X J.2.2.2.1 hL (by omega) (by decide) (lv_at hl 0 rfl) (lv_at hl 5 rfl) dLaw_law_702 dLaw_law_703 dLaw_law_705 dLaw_law_706 dLaw_law_707 ?_
  refine l_arg (i := i) (k := 3) X J.2.2.2.1 hL (by omega) (by decide) (lv_at hl 0 rfl) (lv_at hl 5 rfl) dLaw_law_708 dLaw_law_709 dLaw_law_711 dLaw_law_712 dLaw_law_713 ?_
  refine l_arg (i := i) (k := 4) X J.2.2.2.1 hL (by omega) (by decide) (lv_at hl 0 rfl) (lv_at hl 5 rfl) dLaw_law_714 dLaw_law_715 dLaw_law_717 dLaw_law_718 dLaw_law_719 ?_
  refine lv_i2c hx hb dLaw_law_720 e4 ?_
  refine lv_aload_n hx hb dLaw_law_721 rfl (lv_at hl 3 rfl) ?_
  refine l_wr (As := [.int (xs (i + 1)), .int (xs (i + 2)), .int (xs (i + 3)), .int (nI c4), .ref bo]) (rest := []) X J (cv_thing l hst D ca (lA s.heap.size lo hi) bo cO α σ f hbo h17 (xs (i + 1)) (xs (i + 2)) (xs (i + 3)) (nI c4) (r, σ1) hfc j hj1) lw_thing ⟨rfl, rfl⟩ ⟨Nat.le_of_ble_eq_true rfl, Nat.le_of_ble_eq_true rfl⟩ rfl rfl (cats_le _ (Nat.le_of_ble_eq_true rfl)) hl.1 dLaw_law_722 ⟨Nat.le_trans (Nat.add_le_add_left (Nat.le_of_ble_eq_true rfl) _) hcl, Nat.le_trans (Nat.add_le_add_left (Nat.le_of_ble_eq_true rfl) _) hsl⟩ (fun α1 H1 locs1 J1 => ?_)
  refine lv_istore (lv' := [(6, .int (nI (lK j r))), (0, .ref b), (1, .ref (α0 0 0)), (2, .ref (μ 0)), (3, .ref bo), (4, .ref bd), (5, .int (nI i))]) hx hb dLaw_law_725 hl (by decide) rfl (fun ls hl => ?_)
  refine lv_aload_n hx hb dLaw_law_727 rfl (lv_at hl 3 rfl) ?_
  refine l_arg (i := i) (k := 1) X J1.2.2.2.1 hL (by omega) (by decide) (lv_at hl 1 rfl) (lv_at hl 6 rfl) dLaw_law_728 dLaw_law_729 dLaw_law_731 dLaw_law_732 dLaw_law_733 ?_
  refine l_arg (i := i) (k := 2) X J1.2.2.2.1 hL (by omega) (by decide) (lv_at hl 1 rfl) (lv_at hl 6 rfl) dLaw_law_734 dLaw_law_735 dLaw_law_737 dLaw_law_738 dLaw_law_739 ?_
  refine l_arg (i := i) (k := 3) X J1.2.2.2.1 hL (by omega) (by decide) (lv_at hl 1 rfl) (lv_at hl 6 rfl) dLaw_law_740 dLaw_law_741 dLaw_law_743 dLaw_law_744 dLaw_law_745 ?_
  refine l_arg (i := i) (k := 4) X J1.2.2.2.1 hL (by omega) (by decide) (lv_at hl 1 rfl) (lv_at hl 6 rfl) dLaw_law_746 dLaw_law_747 dLaw_law_749 dLaw_law_750 dLaw_law_751 ?_
  refine lv_i2c hx hb dLaw_law_752 e4 ?_
  refine l_modI (As := [.int (xs (i + 1)), .int (xs (i + 2)), .int (xs (i + 3)), .int (nI c4)]) (rest := []) X J1 (cm_thing l Dm cm μ (lB lo hm) τ (xs (i + 1)) (xs (i + 2)) (xs (i + 3)) (nI c4) (v, τ2) hfm) mwl_thing ⟨rfl, rfl⟩ ⟨Nat.le_of_ble_eq_true rfl, Nat.le_of_ble_eq_true rfl⟩ rfl rfl (cats_le _ (Nat.le_of_ble_eq_true rfl)) hl.1 dLaw_law_753 ⟨Nat.le_trans (Nat.add_le_add_left (Nat.le_of_ble_eq_true rfl) _) hcl, Nat.le_trans (Nat.add_le_add_left (Nat.le_of_ble_eq_true rfl) _) hsl⟩ (fun H2 locs2 J2 => ?_)
  refine lv_istore (lv' := [(7, .int v), (6, .int (nI (lK j r))), (0, .ref b), (1, .ref (α0 0 0)), (2, .ref (μ 0)), (3, .ref bo), (4, .ref bd), (5, .int (nI i))]) hx hb dLaw_law_756 hl (by decide) rfl (fun ls hl => ?_)
  refine lv_aload_n hx hb dLaw_law_758 rfl (lv_at hl 4 rfl) ?_
  refine l_modI (As := []) (rest := []) X J2 (cm_thrown l Dm cm μ (lB lo hm) τ2 (τ2.1 0, τ2) rfl) mwl_thrown ⟨rfl, rfl⟩ ⟨Nat.le_of_ble_eq_true rfl, Nat.le_of_ble_eq_true rfl⟩ rfl rfl (cats_le _ (Nat.le_of_ble_eq_true rfl)) hl.1 dLaw_law_759 ⟨Nat.le_trans (Nat.add_le_add_left (Nat.le_of_ble_eq_true rfl) _) hcl, Nat.le_trans (Nat.add_le_add_left (Nat.le_of_ble_eq_true rfl) _) hsl⟩ (fun H3 locs3 J3 => ?_)
  refine lv_iload hx hb dLaw_law_762 (lv_at hl 1 rfl) ?_
  refine lv_icmp_eq (tgt := 769) hx hb dLaw_law_764 (by decide) (fun _ => ?_) (fun q => absurd hth q)
  refine lv_iload hx hb dLaw_law_769 (lv_at hl 1 rfl) ?_
  have fin : W p l e room_1 s m #[Value.ref b] below meth c H3 locs3 (cells + 12) (slots + 700) Q (F0 m 3212 ls []) := kk g1 σ1 τ2 α1 _ fd H3 locs3 ls hR1 J3 (lv_sub hl [2, 3, 4, 5, 6, 7] rfl)
  refine W.widen (k := cells + 12) (n := slots + 700) (Nat.add_le_add_left (Nat.le_of_ble_eq_true rfl) _) (Nat.add_le_add_left (Nat.le_of_ble_eq_true rfl) _) ?_
  refine lv_if_ne (tgt := 786) hx hb dLaw_law_771 (by decide) (fun q => ?_) (fun q => ?_)
  · refine lv_goto (tgt := 3212) hx hb dLaw_law_786 (by decide) ?_
    exact fin
  · rcases hrr with ⟨k0, rfl⟩ | ⟨k0, k1⟩
    · refine lv_aload_n hx hb dLaw_law_774 rfl (lv_at hl 5 rfl) ?_
      refine lv_iconst (v := (0 : Int32)) hx hb dLaw_law_775 (by decide) ?_
      refine va_lald hx hb X.2.2.1.2.2.1 J3.2.2.1.1 0 0 rfl rfl vp01 dLaw_law_776 ?_
      refine lv_iload hx hb dLaw_law_777 (lv_at hl 0 rfl) ?_
      refine lv_i2l hx hb dLaw_law_779 rfl ?_
      refine W.lcmp hx hb dLaw_law_780 ?_
      refine lv_if_eq (tgt := 786) hx hb dLaw_law_781 (by decide) (fun _ => ?_) (fun q => absurd (lg0.mpr (rfl)) q)
      refine lv_goto (tgt := 3212) hx hb dLaw_law_786 (by decide) ?_
      exact fin
    · exact absurd q (nz_k k0 k1)
theorem lw_isOpen : lCallS 254 yLaw_isOpen cLaw_isOpen 4 (lHh [4, 2, 3] 16 (fun j => ([19, 22, 25] : List Nat).getD j 0)) 3 := ⟨⟨wl_in (i := 1187) (by decide +kernel), wl_in (i := 1188) (by decide +kernel), wl_in (i := 0) (by decide +kernel), wl_in (i := 1189) (by decide +kernel)⟩, by decide, by decide, by decide +kernel⟩
theorem mwl_isOpen : cCallV RV 256 RX12 yX12_isOpen cX12_isOpen 2 (some .boolean) 1 := ⟨⟨wl_in (i := 2205) (by decide +kernel), wl_in (i := 2206) (by decide +kernel), wl_in (i := 2207) (by decide +kernel), wl_in (i := 16) (by decide +kernel), wl_in (i := 2208) (by decide +kernel)⟩, rfl, by decide, by decide, by decide +kernel⟩
set_option maxHeartbeats 4000000 in
set_option maxRecDepth 100000 in
theorem lc_isOpen {p : Program} {l : Launch} {e : Env} {s : State} {m : MethodId} {below : List Frame} {meth : Method} {c : Code} {H : Heap} {locs : List Loc} {cells slots : Nat} {Q : State → Prop} {b L : Nat} {xs : Nat → Int32} {ls : Array Slot} {D Dm : va_G} {ca cm : Nat → ClassId} {cO cOd : ClassId} {α0 α : cAl} {lo hm hi bo bd : Nat} {μ : Nat → Nat} {g : Gm} {σ : cS} {τ : mS} {f : Nat → Int64} {fd : Nat → UInt64} {i : Nat} (hst : l.stackTraces = false) (hL : L ≤ 2560) (X : lX p s m c b L xs D Dm ca cm cO cOd α0 lo hm hi bo bd) (J : lJ s D Dm ca cm cO cOd α0 lo hm hi bo bd μ σ τ α f fd H locs) (hR : Rel g σ τ) (h5 : i + 5 ≤ L) (hl : lv_has ls 9 [(0, .ref b), (1, .ref (α0 0 0)), (2, .ref (μ 0)), (3, .ref bo), (4, .ref bd), (5, .int (nI i))]) (hcl : cells + 12 ≤ room_1.cells) (hsl : slots + 700 ≤ room_1.slots)
    (kk : ∀ (g' : Gm) (σ' : cS) (τ' : mS) (α' : cAl) (f' : Nat → Int64) (fd' : Nat → UInt64) (H' : Heap) (locs' : List Loc) (ls' : Array Slot), Rel g' σ' τ' → lJ s D Dm ca cm cO cOd α0 lo hm hi bo bd μ σ' τ' α' f' fd' H' locs' → lv_has ls' 9 [(0, .ref b), (1, .ref (α0 0 0)), (2, .ref (μ 0)), (3, .ref bo), (4, .ref bd), (5, .int (nI i))] → W p l e room_1 s m #[Value.ref b] below meth c H' locs' (cells + 12) (slots + 700) Q (F0 m 3212 ls' [])) :
    W p l e room_1 s m #[Value.ref b] below meth c H locs cells slots Q (F0 m 1317 ls []) := by
  obtain ⟨hx, hb, -, -, -⟩ := id X.1
  obtain ⟨hbo, -⟩ := l_nbo X
  obtain ⟨h17, -⟩ := l_n17 X J
  obtain ⟨g1, r, σ1, v, τ2, hfc, hfm, hagr, hR1⟩ := meth_isOpen hR (xs (i + 1))
  obtain ⟨j, hj1, hth, hrr⟩ := hagr.use (by decide)
  refine lv_aload_n hx hb dLaw_law_1317 rfl (lv_at hl 1 rfl) ?_
  refine l_arg (i := i) (k := 1) X J.2.2.2.1 hL (by omega) (by decide) (lv_at hl 0 rfl) (lv_at hl 5 rfl) dLaw_law_1318 dLaw_law_1319 dLaw_law_1321 dLaw_law_1322 dLaw_law_1323 ?_
  refine lv_aload_n hx hb dLaw_law_1324 rfl (lv_at hl 3 rfl) ?_
  refine l_wr (As := [.int (xs (i + 1)), .ref bo]) (rest := []) X J (cv_isOpen l hst D ca (lA s.heap.size lo hi) bo cO α σ f hbo h17 (xs (i + 1)) (r, σ1) hfc j hj1) lw_isOpen ⟨rfl, rfl⟩ ⟨Nat.le_of_ble_eq_true rfl, Nat.le_of_ble_eq_true rfl⟩ rfl rfl (cats_le _ (Nat.le_of_ble_eq_true rfl)) hl.1 dLaw_law_1325 ⟨Nat.le_trans (Nat.add_le_add_left (Nat.le_of_ble_eq_true rfl) _) hcl, Nat.le_trans (Nat.add_le_add_left (Nat.le_of_ble_eq_true rfl) _) hsl⟩ (fun α1 H1 locs1 J1 => ?_)
  refine lv_istore (lv' := [(6, .int (nI (lK j r))), (0, .ref b), (1, .ref (α0 0 0)), (2, .ref (μ 0)), (3, .ref bo), (4, .ref bd), (5, .int (nI i))]) hx hb dLaw_law_1328 hl (by decide) rfl (fun ls hl => ?_)
  refine lv_aload_n hx hb dLaw_law_1330 rfl (lv_at hl 3 rfl) ?_
  refine l_arg (i := i) (k := 1) X J1.2.2.2.1 hL (by omega) (by decide) (lv_at hl 1 rfl) (lv_at hl 6 rfl) dLaw_law_1331 dLaw_law_1332 dLaw_law_1334 dLaw_law_1335 dLaw_law_1336 ?_
  refine l_modI (As := [.int (xs (i + 1))]) (rest := []) X J1 (cm_isOpen l Dm cm μ (lB lo hm) τ (xs (i + 1)) (v, τ2) hfm) mwl_isOpen ⟨rfl, rfl⟩ ⟨Nat.le_of_ble_eq_true rfl, Nat.le_of_ble_eq_true rfl⟩ rfl rfl (cats_le _ (Nat.le_of_ble_eq_true rfl)) hl.1 dLaw_law_1337 ⟨Nat.le_trans (Nat.add_le_add_left (Nat.le_of_ble_eq_true rfl) _) hcl, Nat.le_trans (Nat.add_le_add_left (Nat.le_of_ble_eq_true rfl) _) hsl⟩ (fun H2 locs2 J2 => ?_)
  refine lv_istore (lv' := [(7, .int v), (6, .int (nI (lK j r))), (0, .ref b), (1, .ref (α0 0 0)), (2, .ref (μ 0)), (3, .ref bo), (4, .ref bd), (5, .int (nI i))]) hx hb dLaw_law_1340 hl (by decide) rfl (fun ls hl => ?_)
  refine lv_aload_n hx hb dLaw_law_1342 rfl (lv_at hl 4 rfl) ?_
  refine l_modI (As := []) (rest := []) X J2 (cm_thrown l Dm cm μ (lB lo hm) τ2 (τ2.1 0, τ2) rfl) mwl_thrown ⟨rfl, rfl⟩ ⟨Nat.le_of_ble_eq_true rfl, Nat.le_of_ble_eq_true rfl⟩ rfl rfl (cats_le _ (Nat.le_of_ble_eq_true rfl)) hl.1 dLaw_law_1343 ⟨Nat.le_trans (Nat.add_le_add_left (Nat.le_of_ble_eq_true rfl) _) hcl, Nat.le_trans (Nat.add_le_add_left (Nat.le_of_ble_eq_true rfl) _) hsl⟩ (fun H3 locs3 J3 => ?_)
  refine lv_iload hx hb dLaw_law_1346 (lv_at hl 1 rfl) ?_
  refine lv_icmp_eq (tgt := 1353) hx hb dLaw_law_1348 (by decide) (fun _ => ?_) (fun q => absurd hth q)
  refine lv_iload hx hb dLaw_law_1353 (lv_at hl 1 rfl) ?_
  have fin : W p l e room_1 s m #[Value.ref b] below meth c H3 locs3 (cells + 12) (slots + 700) Q (F0 m 3212 ls []) := kk g1 σ1 τ2 α1 _ fd H3 locs3 ls hR1 J3 (lv_sub hl [2, 3, 4, 5, 6, 7] rfl)
  refine W.widen (k := cells + 12) (n := slots + 700) (Nat.add_le_add_left (Nat.le_of_ble_eq_true rfl) _) (Nat.add_le_add_left (Nat.le_of_ble_eq_true rfl) _) ?_
  refine lv_if_ne (tgt := 1377) hx hb dLaw_law_1355 (by decide) (fun q => ?_) (fun q => ?_)
  · refine lv_goto (tgt := 3212) hx hb dLaw_law_1377 (by decide) ?_
    exact fin
  · rcases hrr with ⟨k0, rfl⟩ | ⟨k0, k1⟩
    · refine lv_aload_n hx hb dLaw_law_1358 rfl (lv_at hl 5 rfl) ?_
      refine lv_iconst (v := (0 : Int32)) hx hb dLaw_law_1359 (by decide) ?_
      refine va_lald hx hb X.2.2.1.2.2.1 J3.2.2.1.1 0 0 rfl rfl vp01 dLaw_law_1360 ?_
      refine lv_iload hx hb dLaw_law_1361 (lv_at hl 0 rfl) ?_
      refine lv_if_eq (tgt := 1370) hx hb dLaw_law_1363 (by decide) (fun q1 => ?_) (fun q1 => ?_)
      · refine lv_lconst (v := (0 : Int64)) hx hb dLaw_law_1370 (by decide) ?_
        refine W.lcmp hx hb dLaw_law_1371 ?_
        refine lv_if_eq (tgt := 1377) hx hb dLaw_law_1372 (by decide) (fun _ => ?_) (fun q => absurd (lg0.mpr (show (if v = 0 then (0 : Int64) else 1) = 0 from if_pos q1)) q)
        refine lv_goto (tgt := 3212) hx hb dLaw_law_1377 (by decide) ?_
        exact fin
      · refine lv_lconst (v := (1 : Int64)) hx hb dLaw_law_1366 (by decide) ?_
        refine lv_goto (tgt := 1371) hx hb dLaw_law_1367 (by decide) ?_
        refine W.lcmp hx hb dLaw_law_1371 ?_
        refine lv_if_eq (tgt := 1377) hx hb dLaw_law_1372 (by decide) (fun _ => ?_) (fun q => absurd (lg0.mpr (show (if v = 0 then (0 : Int64) else 1) = 1 from if_neg q1)) q)
        refine lv_goto (tgt := 3212) hx hb dLaw_law_1377 (by decide) ?_
        exact fin
    · exact absurd q (nz_k k0 k1)
