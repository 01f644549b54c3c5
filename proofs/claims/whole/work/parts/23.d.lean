/-! The law's cases. -/
theorem lw_type : lCallS 190 yLaw_type cLaw_type 4 (lHh [1, 2] 9 (fun j => ([12, 15] : List Nat).getD j 0)) 3 := ⟨⟨wl_in (i := 516) (by decide +kernel), wl_in (i := 517) (by decide +kernel), wl_in (i := 0) (by decide +kernel), wl_in (i := 518) (by decide +kernel)⟩, by decide, by decide, by decide +kernel⟩
theorem mwl_type : cCallV RV 195 RX12 yX12_type cX12_type 2 (some .int) 1 := ⟨⟨wl_in (i := 2010) (by decide +kernel), wl_in (i := 2011) (by decide +kernel), wl_in (i := 2012) (by decide +kernel), wl_in (i := 16) (by decide +kernel), wl_in (i := 2013) (by decide +kernel)⟩, rfl, by decide, by decide, by decide +kernel⟩
theorem mwl_thrown : cCallV RV 196 RX12 yX12_thrown cX12_thrown 1 (some .int) 0 := ⟨⟨wl_in (i := 2006) (by decide +kernel), wl_in (i := 2007) (by decide +kernel), wl_in (i := 2008) (by decide +kernel), wl_in (i := 16) (by decide +kernel), wl_in (i := 2009) (by decide +kernel)⟩, rfl, by decide, by decide, by decide +kernel⟩
set_option maxHeartbeats 4000000 in
set_option maxRecDepth 100000 in
theorem lc_type {p : Program} {l : Launch} {e : Env} {s : State} {m : MethodId} {below : List Frame} {meth : Method} {c : Code} {H : Heap} {locs : List Loc} {cells slots : Nat} {Q : State → Prop} {b L : Nat} {xs : Nat → Int32} {ls : Array Slot} {D Dm : va_G} {ca cm : Nat → ClassId} {cO cOd : ClassId} {α0 α : cAl} {lo hm hi bo bd : Nat} {μ : Nat → Nat} {g : Gm} {σ : cS} {τ : mS} {f : Nat → Int64} {fd : Nat → UInt64} {i : Nat} (hst : l.stackTraces = false) (hL : L ≤ 2560) (X : lX p s m c b L xs D Dm ca cm cO cOd α0 lo hm hi bo bd) (J : lJ s D Dm ca cm cO cOd α0 lo hm hi bo bd μ σ τ α f fd H locs) (hR : Rel g σ τ) (h5 : i + 5 ≤ L) (hl : lv_has ls 9 [(0, .ref b), (1, .ref (α0 0 0)), (2, .ref (μ 0)), (3, .ref bo), (4, .ref bd), (5, .int (nI i))]) (hcl : cells + 12 ≤ room_1.cells) (hsl : slots + 700 ≤ room_1.slots)
    (kk : ∀ (g' : Gm) (σ' : cS) (τ' : mS) (α' : cAl) (f' : Nat → Int64) (fd' : Nat → UInt64) (H' : Heap) (locs' : List Loc) (ls' : Array Slot), Rel g' σ' τ' → lJ s D Dm ca cm cO cOd α0 lo hm hi bo bd μ σ' τ' α' f' fd' H' locs' → lv_has ls' 9 [(0, .ref b), (1, .ref (α0 0 0)), (2, .ref (μ 0)), (3, .ref bo), (4, .ref bd), (5, .int (nI i))] → W p l e room_1 s m #[Value.ref b] below meth c H' locs' (cells + 12) (slots + 700) Q (F0 m 3212 ls' [])) :
    W p l e room_1 s m #[Value.ref b] below meth c H locs cells slots Q (F0 m 276 ls []) := by
  obtain ⟨hx, hb, -, -, -⟩ := id X.1
  obtain ⟨hbo, -⟩ := l_nbo X
  obtain ⟨h17, -⟩ := l_n17 X J
  obtain ⟨c1, hc1, e1⟩ := l_char (xs (i + 1))
  obtain ⟨g1, r, σ1, v, τ2, hfc, hfm, hagr, hR1⟩ := meth_type hR hc1
  obtain ⟨j, hj1, hth, hrr⟩ := hagr.use (by decide)
  refine lv_aload_n hx hb dLaw_law_276 rfl (lv_at hl 1 rfl) ?_
  refine l_arg (i := i) (k := 1) X J.2.2.2.1 hL (by omega) (by decide) (lv_at hl 0 rfl) (lv_at hl 5 rfl) dLaw_law_277 dLaw_law_278 dLaw_law_280 dLaw_law_281 dLaw_law_282 ?_
  refine lv_i2c hx hb dLaw_law_283 e1 ?_
  refine lv_aload_n hx hb dLaw_law_284 rfl (lv_at hl 3 rfl) ?_
  refine l_wr (As := [.int (nI c1), .ref bo]) (rest := []) X J (cv_type l hst D ca (lA s.heap.size lo hi) bo cO α σ f hbo h17 (nI c1) (r, σ1) hfc j hj1) lw_type ⟨rfl, rfl⟩ ⟨Nat.le_of_ble_eq_true rfl, Nat.le_of_ble_eq_true rfl⟩ rfl rfl (cats_le _ (Nat.le_of_ble_eq_true rfl)) hl.1 dLaw_law_285 ⟨Nat.le_trans (Nat.add_le_add_left (Nat.le_of_ble_eq_true rfl) _) hcl, Nat.le_trans (Nat.add_le_add_left (Nat.le_of_ble_eq_true rfl) _) hsl⟩ (fun α1 H1 locs1 J1 => ?_)
  refine lv_istore (lv' := [(6, .int (nI (lK j r))), (0, .ref b), (1, .ref (α0 0 0)), (2, .ref (μ 0)), (3, .ref bo), (4, .ref bd), (5, .int (nI i))]) hx hb dLaw_law_288 hl (by decide) rfl (fun ls hl => ?_)
  refine lv_aload_n hx hb dLaw_law_290 rfl (lv_at hl 3 rfl) ?_
  refine l_arg (i := i) (k := 1) X J1.2.2.2.1 hL (by omega) (by decide) (lv_at hl 1 rfl) (lv_at hl 6 rfl) dLaw_law_291 dLaw_law_292 dLaw_law_294 dLaw_law_295 dLaw_law_296 ?_
  refine lv_i2c hx hb dLaw_law_297 e1 ?_
  refine l_modI (As := [.int (nI c1)]) (rest := []) X J1 (cm_type l Dm cm μ (lB lo hm) τ (nI c1) (v, τ2) hfm) mwl_type ⟨rfl, rfl⟩ ⟨Nat.le_of_ble_eq_true rfl, Nat.le_of_ble_eq_true rfl⟩ rfl rfl (cats_le _ (Nat.le_of_ble_eq_true rfl)) hl.1 dLaw_law_298 ⟨Nat.le_trans (Nat.add_le_add_left (Nat.le_of_ble_eq_true rfl) _) hcl, Nat.le_trans (Nat.add_le_add_left (Nat.le_of_ble_eq_true rfl) _) hsl⟩ (fun H2 locs2 J2 => ?_)
  refine lv_istore (lv' := [(7, .int v), (6, .int (nI (lK j r))), (0, .ref b), (1, .ref (α0 0 0)), (2, .ref (μ 0)), (3, .ref bo), (4, .ref bd), (5, .int (nI i))]) hx hb dLaw_law_301 hl (by decide) rfl (fun ls hl => ?_)
  refine lv_aload_n hx hb dLaw_law_303 rfl (lv_at hl 4 rfl) ?_
  refine l_modI (As := []) (rest := []) X J2 (cm_thrown l Dm cm μ (lB lo hm) τ2 (τ2.1 0, τ2) rfl) mwl_thrown ⟨rfl, rfl⟩ ⟨Nat.le_of_ble_eq_true rfl, Nat.le_of_ble_eq_true rfl⟩ rfl rfl (cats_le _ (Nat.le_of_ble_eq_true rfl)) hl.1 dLaw_law_304 ⟨Nat.le_trans (Nat.add_le_add_left (Nat.le_of_ble_eq_true rfl) _) hcl, Nat.le_trans (Nat.add_le_add_left (Nat.le_of_ble_eq_true rfl) _) hsl⟩ (fun H3 locs3 J3 => ?_)
  refine lv_iload hx hb dLaw_law_307 (lv_at hl 1 rfl) ?_
  refine lv_icmp_eq (tgt := 314) hx hb dLaw_law_309 (by decide) (fun _ => ?_) (fun q => absurd hth q)
  refine lv_iload hx hb dLaw_law_314 (lv_at hl 1 rfl) ?_
  have fin : W p l e room_1 s m #[Value.ref b] below meth c H3 locs3 (cells + 12) (slots + 700) Q (F0 m 3212 ls []) := kk g1 σ1 τ2 α1 _ fd H3 locs3 ls hR1 J3 (lv_sub hl [2, 3, 4, 5, 6, 7] rfl)
  refine W.widen (k := cells + 12) (n := slots + 700) (Nat.add_le_add_left (Nat.le_of_ble_eq_true rfl) _) (Nat.add_le_add_left (Nat.le_of_ble_eq_true rfl) _) ?_
  refine lv_if_ne (tgt := 331) hx hb dLaw_law_316 (by decide) (fun q => ?_) (fun q => ?_)
  · refine lv_goto (tgt := 3212) hx hb dLaw_law_331 (by decide) ?_
    exact fin
  · rcases hrr with ⟨k0, rfl⟩ | ⟨k0, k1⟩
    · refine lv_aload_n hx hb dLaw_law_319 rfl (lv_at hl 5 rfl) ?_
      refine lv_iconst (v := (0 : Int32)) hx hb dLaw_law_320 (by decide) ?_
      refine va_lald hx hb X.2.2.1.2.2.1 J3.2.2.1.1 0 0 rfl rfl vp01 dLaw_law_321 ?_
      refine lv_iload hx hb dLaw_law_322 (lv_at hl 0 rfl) ?_
      refine lv_i2l hx hb dLaw_law_324 rfl ?_
      refine W.lcmp hx hb dLaw_law_325 ?_
      refine lv_if_eq (tgt := 331) hx hb dLaw_law_326 (by decide) (fun _ => ?_) (fun q => absurd (lg0.mpr (rfl)) q)
      refine lv_goto (tgt := 3212) hx hb dLaw_law_331 (by decide) ?_
      exact fin
    · exact absurd q (nz_k k0 k1)
theorem lw_word : lCallS 203 yLaw_word cLaw_word 3 (lHh [1, 3, 2] 8 (fun j => ([11, 14, 17] : List Nat).getD j 0)) 2 := ⟨⟨wl_in (i := 617) (by decide +kernel), wl_in (i := 618) (by decide +kernel), wl_in (i := 0) (by decide +kernel), wl_in (i := 619) (by decide +kernel)⟩, by decide, by decide, by decide +kernel⟩
theorem mwl_word : cCallV RV 206 RX12 yX12_word cX12_word 2 (some .int) 0 := ⟨⟨wl_in (i := 2025) (by decide +kernel), wl_in (i := 2026) (by decide +kernel), wl_in (i := 2027) (by decide +kernel), wl_in (i := 16) (by decide +kernel), wl_in (i := 2028) (by decide +kernel)⟩, rfl, by decide, by decide, by decide +kernel⟩
set_option maxHeartbeats 4000000 in
set_option maxRecDepth 100000 in
theorem lc_word {p : Program} {l : Launch} {e : Env} {s : State} {m : MethodId} {below : List Frame} {meth : Method} {c : Code} {H : Heap} {locs : List Loc} {cells slots : Nat} {Q : State → Prop} {b L : Nat} {xs : Nat → Int32} {ls : Array Slot} {D Dm : va_G} {ca cm : Nat → ClassId} {cO cOd : ClassId} {α0 α : cAl} {lo hm hi bo bd : Nat} {μ : Nat → Nat} {g : Gm} {σ : cS} {τ : mS} {f : Nat → Int64} {fd : Nat → UInt64} {i : Nat} (hst : l.stackTraces = false) (hL : L ≤ 2560) (X : lX p s m c b L xs D Dm ca cm cO cOd α0 lo hm hi bo bd) (J : lJ s D Dm ca cm cO cOd α0 lo hm hi bo bd μ σ τ α f fd H locs) (hR : Rel g σ τ) (h5 : i + 5 ≤ L) (hl : lv_has ls 9 [(0, .ref b), (1, .ref (α0 0 0)), (2, .ref (μ 0)), (3, .ref bo), (4, .ref bd), (5, .int (nI i))]) (hcl : cells + 12 ≤ room_1.cells) (hsl : slots + 700 ≤ room_1.slots)
    (kk : ∀ (g' : Gm) (σ' : cS) (τ' : mS) (α' : cAl) (f' : Nat → Int64) (fd' : Nat → UInt64) (H' : Heap) (locs' : List Loc) (ls' : Array Slot), Rel g' σ' τ' → lJ s D Dm ca cm cO cOd α0 lo hm hi bo bd μ σ' τ' α' f' fd' H' locs' → lv_has ls' 9 [(0, .ref b), (1, .ref (α0 0 0)), (2, .ref (μ 0)), (3, .ref bo), (4, .ref bd), (5, .int (nI i))] → W p l e room_1 s m #[Value.ref b] below meth c H' locs' (cells + 12) (slots + 700) Q (F0 m 3212 ls' [])) :
    W p l e room_1 s m #[Value.ref b] below meth c H locs cells slots Q (F0 m 347 ls []) := by
  obtain ⟨hx, hb, -, -, -⟩ := id X.1
  obtain ⟨hbo, -⟩ := l_nbo X
  obtain ⟨h17, -⟩ := l_n17 X J
  obtain ⟨g1, r, σ1, v, τ2, hfc, hfm, hagr, hR1⟩ := meth_word hR 
  obtain ⟨j, hj1, hth, hrr⟩ := hagr.use (by decide)
  refine lv_aload_n hx hb dLaw_law_347 rfl (lv_at hl 1 rfl) ?_
  refine lv_aload_n hx hb dLaw_law_348 rfl (lv_at hl 3 rfl) ?_
  refine l_wr (As := [.ref bo]) (rest := []) X J (cv_word l hst D ca (lA s.heap.size lo hi) bo cO α σ f hbo h17  (r, σ1) hfc j hj1) lw_word ⟨rfl, rfl⟩ ⟨Nat.le_of_ble_eq_true rfl, Nat.le_of_ble_eq_true rfl⟩ rfl rfl (cats_le _ (Nat.le_of_ble_eq_true rfl)) hl.1 dLaw_law_349 ⟨Nat.le_trans (Nat.add_le_add_left (Nat.le_of_ble_eq_true rfl) _) hcl, Nat.le_trans (Nat.add_le_add_left (Nat.le_of_ble_eq_true rfl) _) hsl⟩ (fun α1 H1 locs1 J1 => ?_)
  refine lv_istore (lv' := [(6, .int (nI (lK j r))), (0, .ref b), (1, .ref (α0 0 0)), (2, .ref (μ 0)), (3, .ref bo), (4, .ref bd), (5, .int (nI i))]) hx hb dLaw_law_352 hl (by decide) rfl (fun ls hl => ?_)
  refine lv_aload_n hx hb dLaw_law_354 rfl (lv_at hl 3 rfl) ?_
  refine l_modI (As := []) (rest := []) X J1 (cm_word l Dm cm μ (lB lo hm) τ  (v, τ2) hfm) mwl_word ⟨rfl, rfl⟩ ⟨Nat.le_of_ble_eq_true rfl, Nat.le_of_ble_eq_true rfl⟩ rfl rfl (cats_le _ (Nat.le_of_ble_eq_true rfl)) hl.1 dLaw_law_355 ⟨Nat.le_trans (Nat.add_le_add_left (Nat.le_of_ble_eq_true rfl) _) hcl, Nat.le_trans (Nat.add_le_add_left (Nat.le_of_ble_eq_true rfl) _) hsl⟩ (fun H2 locs2 J2 => ?_)
  refine lv_istore (lv' := [(7, .int v), (6, .int (nI (lK j r))), (0, .ref b), (1, .ref (α0 0 0)), (2, .ref (μ 0)), (3, .ref bo), (4, .ref bd), (5, .int (nI i))]) hx hb dLaw_law_358 hl (by decide) rfl (fun ls hl => ?_)
  refine lv_aload_n hx hb dLaw_law_360 rfl (lv_at hl 4 rfl) ?_
  refine l_modI (As := []) (rest := []) X J2 (cm_thrown l Dm cm μ (lB lo hm) τ2 (τ2.1 0, τ2) rfl) mwl_thrown ⟨rfl, rfl⟩ ⟨Nat.le_of_ble_eq_true rfl, Nat.le_of_ble_eq_true rfl⟩ rfl rfl (cats_le _ (Nat.le_of_ble_eq_true rfl)) hl.1 dLaw_law_361 ⟨Nat.le_trans (Nat.add_le_add_left (Nat.le_of_ble_eq_true rfl) _) hcl, Nat.le_trans (Nat.add_le_add_left (Nat.le_of_ble_eq_true rfl) _) hsl⟩ (fun H3 locs3 J3 => ?_)
  refine lv_iload hx hb dLaw_law_364 (lv_at hl 1 rfl) ?_
  refine lv_icmp_eq (tgt := 371) hx hb dLaw_law_366 (by decide) (fun _ => ?_) (fun q => absurd hth q)
  refine lv_iload hx hb dLaw_law_371 (lv_at hl 1 rfl) ?_
  have fin : W p l e room_1 s m #[Value.ref b] below meth c H3 locs3 (cells + 12) (slots + 700) Q (F0 m 3212 ls []) := kk g1 σ1 τ2 α1 _ fd H3 locs3 ls hR1 J3 (lv_sub hl [2, 3, 4, 5, 6, 7] rfl)
  refine W.widen (k := cells + 12) (n := slots + 700) (Nat.add_le_add_left (Nat.le_of_ble_eq_true rfl) _) (Nat.add_le_add_left (Nat.le_of_ble_eq_true rfl) _) ?_
  refine lv_if_ne (tgt := 388) hx hb dLaw_law_373 (by decide) (fun q => ?_) (fun q => ?_)
  · refine lv_goto (tgt := 3212) hx hb dLaw_law_388 (by decide) ?_
    exact fin
  · rcases hrr with ⟨k0, rfl⟩ | ⟨k0, k1⟩
    · refine lv_aload_n hx hb dLaw_law_376 rfl (lv_at hl 5 rfl) ?_
      refine lv_iconst (v := (0 : Int32)) hx hb dLaw_law_377 (by decide) ?_
      refine va_lald hx hb X.2.2.1.2.2.1 J3.2.2.1.1 0 0 rfl rfl vp01 dLaw_law_378 ?_
      refine lv_iload hx hb dLaw_law_379 (lv_at hl 0 rfl) ?_
      refine lv_i2l hx hb dLaw_law_381 rfl ?_
      refine W.lcmp hx hb dLaw_law_382 ?_
      refine lv_if_eq (tgt := 388) hx hb dLaw_law_383 (by decide) (fun _ => ?_) (fun q => absurd (lg0.mpr (rfl)) q)
      refine lv_goto (tgt := 3212) hx hb dLaw_law_388 (by decide) ?_
      exact fin
    · exact absurd q (nz_k k0 k1)
theorem lw_room : lCallS 207 yLaw_room cLaw_room 4 (lHh [2] 9 (fun j => ([12] : List Nat).getD j 0)) 3 := ⟨⟨wl_in (i := 655) (by decide +kernel), wl_in (i := 656) (by decide +kernel), wl_in (i := 0) (by decide +kernel), wl_in (i := 657) (by decide +kernel)⟩, by decide, by decide, by decide +kernel⟩
theorem mwl_room : cCallV RV 210 RX12 yX12_room cX12_room 3 (some .int) 1 := ⟨⟨wl_in (i := 2037) (by decide +kernel), wl_in (i := 2038) (by decide +kernel), wl_in (i := 2039) (by decide +kernel), wl_in (i := 16) (by decide +kernel), wl_in (i := 2040) (by decide +kernel)⟩, rfl, by decide, by decide, by decide +kernel⟩
set_option maxHeartbeats 4000000 in
set_option maxRecDepth 100000 in
theorem lc_room {p : Program} {l : Launch} {e : Env} {s : State} {m : MethodId} {below : List Frame} {meth : Method} {c : Code} {H : Heap} {locs : List Loc} {cells slots : Nat} {Q : State → Prop} {b L : Nat} {xs : Nat → Int32} {ls : Array Slot} {D Dm : va_G} {ca cm : Nat → ClassId} {cO cOd : ClassId} {α0 α : cAl} {lo hm hi bo bd : Nat} {μ : Nat → Nat} {g : Gm} {σ : cS} {τ : mS} {f : Nat → Int64} {fd : Nat → UInt64} {i : Nat} (hst : l.stackTraces = false) (hL : L ≤ 2560) (X : lX p s m c b L xs D Dm ca cm cO cOd α0 lo hm hi bo bd) (J : lJ s D Dm ca cm cO cOd α0 lo hm hi bo bd μ σ τ α f fd H locs) (hR : Rel g σ τ) (h5 : i + 5 ≤ L) (hl : lv_has ls 9 [(0, .ref b), (1, .ref (α0 0 0)), (2, .ref (μ 0)), (3, .ref bo), (4, .ref bd), (5, .int (nI i))]) (hcl : cells + 12 ≤ room_1.cells) (hsl : slots + 700 ≤ room_1.slots)
    (kk : ∀ (g' : Gm) (σ' : cS) (τ' : mS) (α' : cAl) (f' : Nat → Int64) (fd' : Nat → UInt64) (H' : Heap) (locs' : List Loc) (ls' : Array Slot), Rel g' σ' τ' → lJ s D Dm ca cm cO cOd α0 lo hm hi bo bd μ σ' τ' α' f' fd' H' locs' → lv_has ls' 9 [(0, .ref b), (1, .ref (α0 0 0)), (2, .ref (μ 0)), (3, .ref bo), (4, .ref bd), (5, .int (nI i))] → W p l e room_1 s m #[Value.ref b] below meth c H' locs' (cells + 12) (slots + 700) Q (F0 m 3212 ls' [])) :
    W p l e room_1 s m #[Value.ref b] below meth c H locs cells slots Q (F0 m 391 ls []) := by
  obtain ⟨hx, hb, -, -, -⟩ := id X.1
  obtain ⟨hbo, -⟩ := l_nbo X
  obtain ⟨h17, -⟩ := l_n17 X J
  obtain ⟨g1, r, σ1, v, τ2, hfc, hfm, hagr, hR1⟩ := meth_room hR (decide (xs (i + 1) ≠ 0))
  obtain ⟨j, hj1, hth, hrr⟩ := hagr.use (by decide)
  refine lv_aload_n hx hb dLaw_law_391 rfl (lv_at hl 1 rfl) ?_
  refine l_arg (i := i) (k := 1) X J.2.2.2.1 hL (by omega) (by decide) (lv_at hl 0 rfl) (lv_at hl 5 rfl) dLaw_law_392 dLaw_law_393 dLaw_law_395 dLaw_law_396 dLaw_law_397 ?_
  refine l_bool hx hb dLaw_law_398 dLaw_law_401 dLaw_law_402 dLaw_law_405 ?_
  refine lv_aload_n hx hb dLaw_law_406 rfl (lv_at hl 3 rfl) ?_
  refine l_wr (As := [.int (bI (decide (xs (i + 1) ≠ 0))), .ref bo]) (rest := []) X J (cv_room l hst D ca (lA s.heap.size lo hi) bo cO α σ f hbo h17 (bI (decide (xs (i + 1) ≠ 0))) (r, σ1) hfc j hj1) lw_room ⟨rfl, rfl⟩ ⟨Nat.le_of_ble_eq_true rfl, Nat.le_of_ble_eq_true rfl⟩ rfl rfl (cats_le _ (Nat.le_of_ble_eq_true rfl)) hl.1 dLaw_law_407 ⟨Nat.le_trans (Nat.add_le_add_left (Nat.le_of_ble_eq_true rfl) _) hcl, Nat.le_trans (Nat.add_le_add_left (Nat.le_of_ble_eq_true rfl) _) hsl⟩ (fun α1 H1 locs1 J1 => ?_)
  refine lv_istore (lv' := [(6, .int (nI (lK j r))), (0, .ref b), (1, .ref (α0 0 0)), (2, .ref (μ 0)), (3, .ref bo), (4, .ref bd), (5, .int (nI i))]) hx hb dLaw_law_410 hl (by decide) rfl (fun ls hl => ?_)
  refine lv_aload_n hx hb dLaw_law_412 rfl (lv_at hl 3 rfl) ?_
  refine l_arg (i := i) (k := 1) X J1.2.2.2.1 hL (by omega) (by decide) (lv_at hl 1 rfl) (lv_at hl 6 rfl) dLaw_law_413 dLaw_law_414 dLaw_law_416 dLaw_law_417 dLaw_law_418 ?_
  refine l_bool hx hb dLaw_law_419 dLaw_law_422 dLaw_law_423 dLaw_law_426 ?_
  refine l_modI (As := [.int (bI (decide (xs (i + 1) ≠ 0)))]) (rest := []) X J1 (cm_room l Dm cm μ (lB lo hm) τ (bI (decide (xs (i + 1) ≠ 0))) (v, τ2) hfm) mwl_room ⟨rfl, rfl⟩ ⟨Nat.le_of_ble_eq_true rfl, Nat.le_of_ble_eq_true rfl⟩ rfl rfl (cats_le _ (Nat.le_of_ble_eq_true rfl)) hl.1 dLaw_law_427 ⟨Nat.le_trans (Nat.add_le_add_left (Nat.le_of_ble_eq_true rfl) _) hcl, Nat.le_trans (Nat.add_le_add_left (Nat.le_of_ble_eq_true rfl) _) hsl⟩ (fun H2 locs2 J2 => ?_)
  refine lv_istore (lv' := [(7, .int v), (6, .int (nI (lK j r))), (0, .ref b), (1, .ref (α0 0 0)), (2, .ref (μ 0)), (3, .ref bo), (4, .ref bd), (5, .int (nI i))]) hx hb dLaw_law_430 hl (by decide) rfl (fun ls hl => ?_)
  refine lv_aload_n hx hb dLaw_law_432 rfl (lv_at hl 4 rfl) ?_
  refine l_modI (As := []) (rest := []) X J2 (cm_thrown l Dm cm μ (lB lo hm) τ2 (τ2.1 0, τ2) rfl) mwl_thrown ⟨rfl, rfl⟩ ⟨Nat.le_of_ble_eq_true rfl, Nat.le_of_ble_eq_true rfl⟩ rfl rfl (cats_le _ (Nat.le_of_ble_eq_true rfl)) hl.1 dLaw_law_433 ⟨Nat.le_trans (Nat.add_le_add_left (Nat.le_of_ble_eq_true rfl) _) hcl, Nat.le_trans (Nat.add_le_add_left (Nat.le_of_ble_eq_true rfl) _) hsl⟩ (fun H3 locs3 J3 => ?_)
  refine lv_iload hx hb dLaw_law_436 (lv_at hl 1 rfl) ?_
  refine lv_icmp_eq (tgt := 443) hx hb dLaw_law_438 (by decide) (fun _ => ?_) (fun q => absurd hth q)
  refine lv_iload hx hb dLaw_law_443 (lv_at hl 1 rfl) ?_
  have fin : W p l e room_1 s m #[Value.ref b] below meth c H3 locs3 (cells + 12) (slots + 700) Q (F0 m 3212 ls []) := kk g1 σ1 τ2 α1 _ fd H3 locs3 ls hR1 J3 (lv_sub hl [2, 3, 4, 5, 6, 7] rfl)
  refine W.widen (k := cells + 12) (n := slots + 700) (Nat.add_le_add_left (Nat.le_of_ble_eq_true rfl) _) (Nat.add_le_add_left (Nat.le_of_ble_eq_true rfl) _) ?_
  refine lv_if_ne (tgt := 460) hx hb dLaw_law_445 (by decide) (fun q => ?_) (fun q => ?_)
  · refine lv_goto (tgt := 3212) hx hb dLaw_law_460 (by decide) ?_
    exact fin
  · rcases hrr with ⟨k0, rfl⟩ | ⟨k0, k1⟩
    · refine lv_aload_n hx hb dLaw_law_448 rfl (lv_at hl 5 rfl) ?_
      refine lv_iconst (v := (0 : Int32)) hx hb dLaw_law_449 (by decide) ?_
      refine va_lald hx hb X.2.2.1.2.2.1 J3.2.2.1.1 0 0 rfl rfl vp01 dLaw_law_450 ?_
      refine lv_iload hx hb dLaw_law_451 (lv_at hl 0 rfl) ?_
      refine lv_i2l hx hb dLaw_law_453 rfl ?_
      refine W.lcmp hx hb dLaw_law_454 ?_
      refine lv_if_eq (tgt := 460) hx hb dLaw_law_455 (by decide) (fun _ => ?_) (fun q => absurd (lg0.mpr (rfl)) q)
      refine lv_goto (tgt := 3212) hx hb dLaw_law_460 (by decide) ?_
      exact fin
    · exact absurd q (nz_k k0 k1)
theorem lw_show : lCallS 211 yLaw_show cLaw_show 5 (lHh [4, 2] 10 (fun j => ([13, 17] : List Nat).getD j 0)) 4 := ⟨⟨wl_in (i := 676) (by decide +kernel), wl_in (i := 677) (by decide +kernel), wl_in (i := 0) (by decide +kernel), wl_in (i := 678) (by decide +kernel)⟩, by decide, by decide, by decide +kernel⟩
theorem mwl_show : cCallV RV 214 RX12 yX12_show cX12_show 3 (some .int) 2 := ⟨⟨wl_in (i := 2041) (by decide +kernel), wl_in (i := 2042) (by decide +kernel), wl_in (i := 2043) (by decide +kernel), wl_in (i := 16) (by decide +kernel), wl_in (i := 2044) (by decide +kernel)⟩, rfl, by decide, by decide, by decide +kernel⟩
set_option maxHeartbeats 4000000 in
set_option maxRecDepth 100000 in
theorem lc_show {p : Program} {l : Launch} {e : Env} {s : State} {m : MethodId} {below : List Frame} {meth : Method} {c : Code} {H : Heap} {locs : List Loc} {cells slots : Nat} {Q : State → Prop} {b L : Nat} {xs : Nat → Int32} {ls : Array Slot} {D Dm : va_G} {ca cm : Nat → ClassId} {cO cOd : ClassId} {α0 α : cAl} {lo hm hi bo bd : Nat} {μ : Nat → Nat} {g : Gm} {σ : cS} {τ : mS} {f : Nat → Int64} {fd : Nat → UInt64} {i : Nat} (hst : l.stackTraces = false) (hL : L ≤ 2560) (X : lX p s m c b L xs D Dm ca cm cO cOd α0 lo hm hi bo bd) (J : lJ s D Dm ca cm cO cOd α0 lo hm hi bo bd μ σ τ α f fd H locs) (hR : Rel g σ τ) (h5 : i + 5 ≤ L) (hl : lv_has ls 9 [(0, .ref b), (1, .ref (α0 0 0)), (2, .ref (μ 0)), (3, .ref bo), (4, .ref bd), (5, .int (nI i))]) (hcl : cells + 12 ≤ room_1.cells) (hsl : slots + 700 ≤ room_1.slots)
    (kk : ∀ (g' : Gm) (σ' : cS) (τ' : mS) (α' : cAl) (f' : Nat → Int64) (fd' : Nat → UInt64) (H' : Heap) (locs' : List Loc) (ls' : Array Slot), Rel g' σ' τ' → lJ s D Dm ca cm cO cOd α0 lo hm hi bo bd μ σ' τ' α' f' fd' H' locs' → lv_has ls' 9 [(0, .ref b), (1, .ref (α0 0 0)), (2, .ref (μ 0)), (3, .ref bo), (4, .ref bd), (5, .int (nI i))] → W p l e room_1 s m #[Value.ref b] below meth c H' locs' (cells + 12) (slots + 700) Q (F0 m 3212 ls' [])) :
    W p l e room_1 s m #[Value.ref b] below meth c H locs cells slots Q (F0 m 463 ls []) := by
  obtain ⟨hx, hb, -, -, -⟩ := id X.1
  obtain ⟨hbo, -⟩ := l_nbo X
  obtain ⟨h17, -⟩ := l_n17 X J
  obtain ⟨g1, r, σ1, v, τ2, hfc, hfm, hagr, hR1⟩ := meth_show hR (xs (i + 1)) (xs (i + 2))
  obtain ⟨j, hj1, hth, hrr⟩ := hagr.use (by decide)
  refine lv_aload_n hx hb dLaw_law_463 rfl (lv_at hl 1 rfl) ?_
  refine l_arg (i := i) (k := 1) X J.2.2.2.1 hL (by omega) (by decide) (lv_at hl 0 rfl) (lv_at hl 5 rfl) dLaw_law_464 dLaw_law_465 dLaw_law_467 dLaw_law_468 dLaw_law_469 ?_
  refine l_arg (i := i) (k := 2) X J.2.2.2.1 hL (by omega) (by decide) (lv_at hl 0 rfl) (lv_at hl 5 rfl) dLaw_law_470 dLaw_law_471 dLaw_law_473 dLaw_law_474 dLaw_law_475 ?_
  refine lv_aload_n hx hb dLaw_law_476 rfl (lv_at hl 3 rfl) ?_
  refine l_wr (As := [.int (xs (i + 1)), .int (xs (i + 2)), .ref bo]) (rest := []) X J (cv_show l hst D ca (lA s.heap.size lo hi) bo cO α σ f hbo h17 (xs (i + 1)) (xs (i + 2)) (r, σ1) hfc j hj1) lw_show ⟨rfl, rfl⟩ ⟨Nat.le_of_ble_eq_true rfl, Nat.le_of_ble_eq_true rfl⟩ rfl rfl (cats_le _ (Nat.le_of_ble_eq_true rfl)) hl.1 dLaw_law_477 ⟨Nat.le_trans (Nat.add_le_add_left (Nat.le_of_ble_eq_true rfl) _) hcl, Nat.le_trans (Nat.add_le_add_left (Nat.le_of_ble_eq_true rfl) _) hsl⟩ (fun α1 H1 locs1 J1 => ?_)
  refine lv_istore (lv' := [(6, .int (nI (lK j r))), (0, .ref b), (1, .ref (α0 0 0)), (2, .ref (μ 0)), (3, .ref bo), (4, .ref bd), (5, .int (nI i))]) hx hb dLaw_law_480 hl (by decide) rfl (fun ls hl => ?_)
  refine lv_aload_n hx hb dLaw_law_482 rfl (lv_at hl 3 rfl) ?_
  refine l_arg (i := i) (k := 1) X J1.2.2.2.1 hL (by omega) (by decide) (lv_at hl 1 rfl) (lv_at hl 6 rfl) dLaw_law_483 dLaw_law_484 dLaw_law_486 dLaw_law_487 dLaw_law_488 ?_
  refine l_arg (i := i) (k := 2) X J1.2.2.2.1 hL (by omega) (by decide) (lv_at hl 1 rfl) (lv_at hl 6 rfl) dLaw_law_489 dLaw_law_490 dLaw_law_492 dLaw_law_493 dLaw_law_494 ?_
  refine l_modI (As := [.int (xs (i + 1)), .int (xs (i + 2))]) (rest := []) X J1 (cm_show l Dm cm μ (lB lo hm) τ (xs (i + 1)) (xs (i + 2)) (v, τ2) hfm) mwl_show ⟨rfl, rfl⟩ ⟨Nat.le_of_ble_eq_true rfl, Nat.le_of_ble_eq_true rfl⟩ rfl rfl (cats_le _ (Nat.le_of_ble_eq_true rfl)) hl.1 dLaw_law_495 ⟨Nat.le_trans (Nat.add_le_add_left (Nat.le_of_ble_eq_true rfl) _) hcl, Nat.le_trans (Nat.add_le_add_left (Nat.le_of_ble_eq_true rfl) _) hsl⟩ (fun H2 locs2 J2 => ?_)
  refine lv_istore (lv' := [(7, .int v), (6, .int (nI (lK j r))), (0, .ref b), (1, .ref (α0 0 0)), (2, .ref (μ 0)), (3, .ref bo), (4, .ref bd), (5, .int (nI i))]) hx hb dLaw_law_498 hl (by decide) rfl (fun ls hl => ?_)
  refine lv_aload_n hx hb dLaw_law_500 rfl (lv_at hl 4 rfl) ?_
  refine l_modI (As := []) (rest := []) X J2 (cm_thrown l Dm cm μ (lB lo hm) τ2 (τ2.1 0, τ2) rfl) mwl_thrown ⟨rfl, rfl⟩ ⟨Nat.le_of_ble_eq_true rfl, Nat.le_of_ble_eq_true rfl⟩ rfl rfl (cats_le _ (Nat.le_of_ble_eq_true rfl)) hl.1 dLaw_law_501 ⟨Nat.le_trans (Nat.add_le_add_left (Nat.le_of_ble_eq_true rfl) _) hcl, Nat.le_trans (Nat.add_le_add_left (Nat.le_of_ble_eq_true rfl) _) hsl⟩ (fun H3 locs3 J3 => ?_)
  refine lv_iload hx hb dLaw_law_504 (lv_at hl 1 rfl) ?_
  refine lv_icmp_eq (tgt := 511) hx hb dLaw_law_506 (by decide) (fun _ => ?_) (fun q => absurd hth q)
  refine lv_iload hx hb dLaw_law_511 (lv_at hl 1 rfl) ?_
  have fin : W p l e room_1 s m #[Value.ref b] below meth c H3 locs3 (cells + 12) (slots + 700) Q (F0 m 3212 ls []) := kk g1 σ1 τ2 α1 _ fd H3 locs3 ls hR1 J3 (lv_sub hl [2, 3, 4, 5, 6, 7] rfl)
  refine W.widen (k := cells + 12) (n := slots + 700) (Nat.add_le_add_left (Nat.le_of_ble_eq_true rfl) _) (Nat.add_le_add_left (Nat.le_of_ble_eq_true rfl) _) ?_
  refine lv_if_ne (tgt := 528) hx hb dLaw_law_513 (by decide) (fun q => ?_) (fun q => ?_)
  · refine lv_goto (tgt := 3212) hx hb dLaw_law_528 (by decide) ?_
    exact fin
  · rcases hrr with ⟨k0, rfl⟩ | ⟨k0, k1⟩
    · refine lv_aload_n hx hb dLaw_law_516 rfl (lv_at hl 5 rfl) ?_
      refine lv_iconst (v := (0 : Int32)) hx hb dLaw_law_517 (by decide) ?_
      refine va_lald hx hb X.2.2.1.2.2.1 J3.2.2.1.1 0 0 rfl rfl vp01 dLaw_law_518 ?_
      refine lv_iload hx hb dLaw_law_519 (lv_at hl 0 rfl) ?_
      refine lv_i2l hx hb dLaw_law_521 rfl ?_
      refine W.lcmp hx hb dLaw_law_522 ?_
      refine lv_if_eq (tgt := 528) hx hb dLaw_law_523 (by decide) (fun _ => ?_) (fun q => absurd (lg0.mpr (rfl)) q)
      refine lv_goto (tgt := 3212) hx hb dLaw_law_528 (by decide) ?_
      exact fin
    · exact absurd q (nz_k k0 k1)
theorem lw_exit : lCallS 215 yLaw_exit cLaw_exit 6 (lHh [4, 1, 2] 12 (fun j => ([15, 19, 23] : List Nat).getD j 0)) 5 := ⟨⟨wl_in (i := 743) (by decide +kernel), wl_in (i := 744) (by decide +kernel), wl_in (i := 0) (by decide +kernel), wl_in (i := 745) (by decide +kernel)⟩, by decide, by decide, by decide +kernel⟩
theorem mwl_exit : cCallV RV 218 RX12 yX12_exit cX12_exit 6 (some .int) 3 := ⟨⟨wl_in (i := 2059) (by decide +kernel), wl_in (i := 2060) (by decide +kernel), wl_in (i := 2061) (by decide +kernel), wl_in (i := 16) (by decide +kernel), wl_in (i := 2062) (by decide +kernel)⟩, rfl, by decide, by decide, by decide +kernel⟩
set_option maxHeartbeats 4000000 in
set_option maxRecDepth 100000 in
theorem lc_exit {p : Program} {l : Launch} {e : Env} {s : State} {m : MethodId} {below : List Frame} {meth : Method} {c : Code} {H : Heap} {locs : List Loc} {cells slots : Nat} {Q : State → Prop} {b L : Nat} {xs : Nat → Int32} {ls : Array Slot} {D Dm : va_G} {ca cm : Nat → ClassId} {cO cOd : ClassId} {α0 α : cAl} {lo hm hi bo bd : Nat} {μ : Nat → Nat} {g : Gm} {σ : cS} {τ : mS} {f : Nat → Int64} {fd : Nat → UInt64} {i : Nat} (hst : l.stackTraces = false) (hL : L ≤ 2560) (X : lX p s m c b L xs D Dm ca cm cO cOd α0 lo hm hi bo bd) (J : lJ s D Dm ca cm cO cOd α0 lo hm hi bo bd μ σ τ α f fd H locs) (hR : Rel g σ τ) (h5 : i + 5 ≤ L) (hl : lv_has ls 9 [(0, .ref b), (1, .ref (α0 0 0)), (2, .ref (μ 0)), (3, .ref bo), (4, .ref bd), (5, .int (nI i))]) (hcl : cells + 12 ≤ room_1.cells) (hsl : slots + 700 ≤ room_1.slots)
    (kk : ∀ (g' : Gm) (σ' : cS) (τ' : mS) (α' : cAl) (f' : Nat → Int64) (fd' : Nat → UInt64) (H' : Heap) (locs' : List Loc) (ls' : Array Slot), Rel g' σ' τ' → lJ s D Dm ca cm cO cOd α0 lo hm hi bo bd μ σ' τ' α' f' fd' H' locs' → lv_has ls' 9 [(0, .ref b), (1, .ref (α0 0 0)), (2, .ref (μ 0)), (3, .ref bo), (4, .ref bd), (5, .int (nI i))] → W p l e room_1 s m #[Value.ref b] below meth c H' locs' (cells + 12) (slots + 700) Q (F0 m 3212 ls' [])) :
    W p l e room_1 s m #[Value.ref b] below meth c H locs cells slots Q (F0 m 531 ls []) := by
  obtain ⟨hx, hb, -, -, -⟩ := id X.1
  obtain ⟨hbo, -⟩ := l_nbo X
  obtain ⟨h17, -⟩ := l_n17 X J
  obtain ⟨c2, hc2, e2⟩ := l_char (xs (i + 2))
  obtain ⟨g1, r, σ1, v, τ2, hfc, hfm, hagr, hR1⟩ := meth_exit hR (xs (i + 1)) (xs (i + 3)) hc2
  obtain ⟨j, hj1, hth, hrr⟩ := hagr.use (by decide)
  refine lv_aload_n hx hb dLaw_law_531 rfl (lv_at hl 1 rfl) ?_
  refine l_arg (i := i) (k := 1) X J.2.2.2.1 hL (by omega) (by decide) (lv_at hl 0 rfl) (lv_at hl 5 rfl) dLaw_law_532 dLaw_law_533 dLaw_law_535 dLaw_law_536 dLaw_law_537 ?_
  refine l_arg (i := i) (k := 2) X J.2.2.2.1 hL (by omega) (by decide) (lv_at hl 0 rfl) (lv_at hl 5 rfl) dLaw_law_538 dLaw_law_539 dLaw_law_541 dLaw_law_542 dLaw_law_543 ?_
  refine lv_i2c hx hb dLaw_law_544 e2 ?_
  refine l_arg (i := i) (k := 3) X J.2.2.2.1 hL (by omega) (by decide) (lv_at hl 0 rfl) (lv_at hl 5 rfl) dLaw_law_545 dLaw_law_546 dLaw_law_548 dLaw_law_549 dLaw_law_550 ?_
  refine lv_aload_n hx hb dLaw_law_551 rfl (lv_at hl 3 rfl) ?_
  refine l_wr (As := [.int (xs (i + 1)), .int (nI c2), .int (xs (i + 3)), .ref bo]) (rest := []) X J (cv_exit l hst D ca (lA s.heap.size lo hi) bo cO α σ f hbo h17 (xs (i + 1)) (nI c2) (xs (i + 3)) (r, σ1) hfc j hj1) lw_exit ⟨rfl, rfl⟩ ⟨Nat.le_of_ble_eq_true rfl, Nat.le_of_ble_eq_true rfl⟩ rfl rfl (cats_le _ (Nat.le_of_ble_eq_true rfl)) hl.1 dLaw_law_552 ⟨Nat.le_trans (Nat.add_le_add_left (Nat.le_of_ble_eq_true rfl) _) hcl, Nat.le_trans (Nat.add_le_add_left (Nat.le_of_ble_eq_true rfl) _) hsl⟩ (fun α1 H1 locs1 J1 => ?_)
  refine lv_istore (lv' := [(6, .int (nI (lK j r))), (0, .ref b), (1, .ref (α0 0 0)), (2, .ref (μ 0)), (3, .ref bo), (4, .ref bd), (5, .int (nI i))]) hx hb dLaw_law_555 hl (by decide) rfl (fun ls hl => ?_)
  refine lv_aload_n hx hb dLaw_law_557 rfl (lv_at hl 3 rfl) ?_
  refine l_arg (i := i) (k := 1) X J1.2.2.2.1 hL (by omega) (by decide) (lv_at hl 1 rfl) (lv_at hl 6 rfl) dLaw_law_558 dLaw_law_559 dLaw_law_561 dLaw_law_562 dLaw_law_563 ?_
  refine l_arg (i := i) (k := 2) X J1.2.2.2.1 hL (by omega) (by decide) (lv_at hl 1 rfl) (lv_at hl 6 rfl) dLaw_law_564 dLaw_law_565 dLaw_law_567 dLaw_law_568 dLaw_law_569 ?_
  refine lv_i2c hx hb dLaw_law_570 e2 ?_
  refine l_arg (i := i) (k := 3) X J1.2.2.2.1 hL (by omega) (by decide) (lv_at hl 1 rfl) (lv_at hl 6 rfl) dLaw_law_571 dLaw_law_572 dLaw_law_574 dLaw_law_575 dLaw_law_576 ?_
  refine l_modI (As := [.int (xs (i + 1)), .int (nI c2), .int (xs (i + 3))]) (rest := []) X J1 (cm_exit l Dm cm μ (lB lo hm) τ (xs (i + 1)) (nI c2) (xs (i + 3)) (v, τ2) hfm) mwl_exit ⟨rfl, rfl⟩ ⟨Nat.le_of_ble_eq_true rfl, Nat.le_of_ble_eq_true rfl⟩ rfl rfl (cats_le _ (Nat.le_of_ble_eq_true rfl)) hl.1 dLaw_law_577 ⟨Nat.le_trans (Nat.add_le_add_left (Nat.le_of_ble_eq_true rfl) _) hcl, Nat.le_trans (Nat.add_le_add_left (Nat.le_of_ble_eq_true rfl) _) hsl⟩ (fun H2 locs2 J2 => ?_)
  refine lv_istore (lv' := [(7, .int v), (6, .int (nI (lK j r))), (0, .ref b), (1, .ref (α0 0 0)), (2, .ref (μ 0)), (3, .ref bo), (4, .ref bd), (5, .int (nI i))]) hx hb dLaw_law_580 hl (by decide) rfl (fun ls hl => ?_)
  refine lv_aload_n hx hb dLaw_law_582 rfl (lv_at hl 4 rfl) ?_
  refine l_modI (As := []) (rest := []) X J2 (cm_thrown l Dm cm μ (lB lo hm) τ2 (τ2.1 0, τ2) rfl) mwl_thrown ⟨rfl, rfl⟩ ⟨Nat.le_of_ble_eq_true rfl, Nat.le_of_ble_eq_true rfl⟩ rfl rfl (cats_le _ (Nat.le_of_ble_eq_true rfl)) hl.1 dLaw_law_583 ⟨Nat.le_trans (Nat.add_le_add_left (Nat.le_of_ble_eq_true rfl) _) hcl, Nat.le_trans (Nat.add_le_add_left (Nat.le_of_ble_eq_true rfl) _) hsl⟩ (fun H3 locs3 J3 => ?_)
  refine lv_iload hx hb dLaw_law_586 (lv_at hl 1 rfl) ?_
  refine lv_icmp_eq (tgt := 593) hx hb dLaw_law_588 (by decide) (fun _ => ?_) (fun q => absurd hth q)
  refine lv_iload hx hb dLaw_law_593 (lv_at hl 1 rfl) ?_
  have fin : W p l e room_1 s m #[Value.ref b] below meth c H3 locs3 (cells + 12) (slots + 700) Q (F0 m 3212 ls []) := kk g1 σ1 τ2 α1 _ fd H3 locs3 ls hR1 J3 (lv_sub hl [2, 3, 4, 5, 6, 7] rfl)
  refine W.widen (k := cells + 12) (n := slots + 700) (Nat.add_le_add_left (Nat.le_of_ble_eq_true rfl) _) (Nat.add_le_add_left (Nat.le_of_ble_eq_true rfl) _) ?_
  refine lv_if_ne (tgt := 610) hx hb dLaw_law_595 (by decide) (fun q => ?_) (fun q => ?_)
  · refine lv_goto (tgt := 3212) hx hb dLaw_law_610 (by decide) ?_
    exact fin
  · rcases hrr with ⟨k0, rfl⟩ | ⟨k0, k1⟩
    · refine lv_aload_n hx hb dLaw_law_598 rfl (lv_at hl 5 rfl) ?_
      refine lv_iconst (v := (0 : Int32)) hx hb dLaw_law_599 (by decide) ?_
      refine va_lald hx hb X.2.2.1.2.2.1 J3.2.2.1.1 0 0 rfl rfl vp01 dLaw_law_600 ?_
      refine lv_iload hx hb dLaw_law_601 (lv_at hl 0 rfl) ?_
      refine lv_i2l hx hb dLaw_law_603 rfl ?_
      refine W.lcmp hx hb dLaw_law_604 ?_
      refine lv_if_eq (tgt := 610) hx hb dLaw_law_605 (by decide) (fun _ => ?_) (fun q => absurd (lg0.mpr (rfl)) q)
      refine lv_goto (tgt := 3212) hx hb dLaw_law_610 (by decide) ?_
      exact fin
    · exact absurd q (nz_k k0 k1)
theorem lw_lock : lCallS 219 yLaw_lock cLaw_lock 6 (lHh [4, 1, 3, 2] 12 (fun j => ([15, 19, 23, 27] : List Nat).getD j 0)) 5 := ⟨⟨wl_in (i := 841) (by decide +kernel), wl_in (i := 842) (by decide +kernel), wl_in (i := 0) (by decide +kernel), wl_in (i := 843) (by decide +kernel)⟩, by decide, by decide, by decide +kernel⟩
theorem mwl_lock : cCallV RV 221 RX12 yX12_lock cX12_lock 6 (some .int) 3 := ⟨⟨wl_in (i := 2066) (by decide +kernel), wl_in (i := 2067) (by decide +kernel), wl_in (i := 2068) (by decide +kernel), wl_in (i := 16) (by decide +kernel), wl_in (i := 2069) (by decide +kernel)⟩, rfl, by decide, by decide, by decide +kernel⟩
set_option maxHeartbeats 4000000 in
set_option maxRecDepth 100000 in
theorem lc_lock {p : Program} {l : Launch} {e : Env} {s : State} {m : MethodId} {below : List Frame} {meth : Method} {c : Code} {H : Heap} {locs : List Loc} {cells slots : Nat} {Q : State → Prop} {b L : Nat} {xs : Nat → Int32} {ls : Array Slot} {D Dm : va_G} {ca cm : Nat → ClassId} {cO cOd : ClassId} {α0 α : cAl} {lo hm hi bo bd : Nat} {μ : Nat → Nat} {g : Gm} {σ : cS} {τ : mS} {f : Nat → Int64} {fd : Nat → UInt64} {i : Nat} (hst : l.stackTraces = false) (hL : L ≤ 2560) (X : lX p s m c b L xs D Dm ca cm cO cOd α0 lo hm hi bo bd) (J : lJ s D Dm ca cm cO cOd α0 lo hm hi bo bd μ σ τ α f fd H locs) (hR : Rel g σ τ) (h5 : i + 5 ≤ L) (hl : lv_has ls 9 [(0, .ref b), (1, .ref (α0 0 0)), (2, .ref (μ 0)), (3, .ref bo), (4, .ref bd), (5, .int (nI i))]) (hcl : cells + 12 ≤ room_1.cells) (hsl : slots + 700 ≤ room_1.slots)
    (kk : ∀ (g' : Gm) (σ' : cS) (τ' : mS) (α' : cAl) (f' : Nat → Int64) (fd' : Nat → UInt64) (H' : Heap) (locs' : List Loc) (ls' : Array Slot), Rel g' σ' τ' → lJ s D Dm ca cm cO cOd α0 lo hm hi bo bd μ σ' τ' α' f' fd' H' locs' → lv_has ls' 9 [(0, .ref b), (1, .ref (α0 0 0)), (2, .ref (μ 0)), (3, .ref bo), (4, .ref bd), (5, .int (nI i))] → W p l e room_1 s m #[Value.ref b] below meth c H' locs' (cells + 12) (slots + 700) Q (F0 m 3212 ls' [])) :
    W p l e room_1 s m #[Value.ref b] below meth c H locs cells slots Q (F0 m 613 ls []) := by
  obtain ⟨hx, hb, -, -, -⟩ := id X.1
  obtain ⟨hbo, -⟩ := l_nbo X
  obtain ⟨h17, -⟩ := l_n17 X J
  obtain ⟨c2, hc2, e2⟩ := l_char (xs (i + 2))
  obtain ⟨g1, r, σ1, v, τ2, hfc, hfm, hagr, hR1⟩ := meth_lock hR (xs (i + 1)) (xs (i + 3)) hc2
  obtain ⟨j, hj1, hth, hrr⟩ := hagr.use (by decide)
  refine lv_aload_n hx hb dLaw_law_613 rfl (lv_at hl 1 rfl) ?_
  refine l_arg (i := i) (k := 1) X J.2.2.2.1 hL (by omega) (by decide) (lv_at hl 0 rfl) (lv_at hl 5 rfl) dLaw_law_614 dLaw_law_615 dLaw_law_617 dLaw_law_618 dLaw_law_619 ?_
  refine l_arg (i := i) (k := 2) X J.2.2.2.1 hL (by omega) (by decide) (lv_at hl 0 rfl) (lv_at hl 5 rfl) dLaw_law_620 dLaw_law_621 dLaw_law_623 dLaw_law_624 dLaw_law_625 ?_
  refine lv_i2c hx hb dLaw_law_626 e2 ?_
  refine l_arg (i := i) (k := 3) X J.2.2.2.1 hL (by omega) (by decide) (lv_at hl 0 rfl) (lv_at hl 5 rfl) dLaw_law_627 dLaw_law_628 dLaw_law_630 dLaw_law_631 dLaw_law_632 ?_
  refine lv_aload_n hx hb dLaw_law_633 rfl (lv_at hl 3 rfl) ?_
  refine l_wr (As := [.int (xs (i + 1)), .int (nI c2), .int (xs (i + 3)), .ref bo]) (rest := []) X J (cv_lock l hst D ca (lA s.heap.size lo hi) bo cO α σ f hbo h17 (xs (i + 1)) (nI c2) (xs (i + 3)) (r, σ1) hfc j hj1) lw_lock ⟨rfl, rfl⟩ ⟨Nat.le_of_ble_eq_true rfl, Nat.le_of_ble_eq_true rfl⟩ rfl rfl (cats_le _ (Nat.le_of_ble_eq_true rfl)) hl.1 dLaw_law_634 ⟨Nat.le_trans (Nat.add_le_add_left (Nat.le_of_ble_eq_true rfl) _) hcl, Nat.le_trans (Nat.add_le_add_left (Nat.le_of_ble_eq_true rfl) _) hsl⟩ (fun α1 H1 locs1 J1 => ?_)
  refine lv_istore (lv' := [(6, .int (nI (lK j r))), (0, .ref b), (1, .ref (α0 0 0)), (2, .ref (μ 0)), (3, .ref bo), (4, .ref bd), (5, .int (nI i))]) hx hb dLaw_law_637 hl (by decide) rfl (fun ls hl => ?_)
  refine lv_aload_n hx hb dLaw_law_639 rfl (lv_at hl 3 rfl) ?_
  refine l_arg (i := i) (k := 1) X J1.2.2.2.1 hL (by omega) (by decide) (lv_at hl 1 rfl) (lv_at hl 6 rfl) dLaw_law_640 dLaw_law_641 dLaw_law_643 dLaw_law_644 dLaw_law_645 ?_
  refine l_arg (i := i) (k := 2) X J1.2.2.2.1 hL (by omega) (by decide) (lv_at hl 1 rfl) (lv_at hl 6 rfl) dLaw_law_646 dLaw_law_647 dLaw_law_649 dLaw_law_650 dLaw_law_651 ?_
  refine lv_i2c hx hb dLaw_law_652 e2 ?_
  refine l_arg (i := i) (k := 3) X J1.2.2.2.1 hL (by omega) (by decide) (lv_at hl 1 rfl) (lv_at hl 6 rfl) dLaw_law_653 dLaw_law_654 dLaw_law_656 dLaw_law_657 dLaw_law_658 ?_
  refine l_modI (As := [.int (xs (i + 1)), .int (nI c2), .int (xs (i + 3))]) (rest := []) X J1 (cm_lock l Dm cm μ (lB lo hm) τ (xs (i + 1)) (nI c2) (xs (i + 3)) (v, τ2) hfm) mwl_lock ⟨rfl, rfl⟩ ⟨Nat.le_of_ble_eq_true rfl, Nat.le_of_ble_eq_true rfl⟩ rfl rfl (cats_le _ (Nat.le_of_ble_eq_true rfl)) hl.1 dLaw_law_659 ⟨Nat.le_trans (Nat.add_le_add_left (Nat.le_of_ble_eq_true rfl) _) hcl, Nat.le_trans (Nat.add_le_add_left (Nat.le_of_ble_eq_true rfl) _) hsl⟩ (fun H2 locs2 J2 => ?_)
  refine lv_istore (lv' := [(7, .int v), (6, .int (nI (lK j r))), (0, .ref b), (1, .ref (α0 0 0)), (2, .ref (μ 0)), (3, .ref bo), (4, .ref bd), (5, .int (nI i))]) hx hb dLaw_law_662 hl (by decide) rfl (fun ls hl => ?_)
  refine lv_aload_n hx hb dLaw_law_664 rfl (lv_at hl 4 rfl) ?_
  refine l_modI (As := []) (rest := []) X J2 (cm_thrown l Dm cm μ (lB lo hm) τ2 (τ2.1 0, τ2) rfl) mwl_thrown ⟨rfl, rfl⟩ ⟨Nat.le_of_ble_eq_true rfl, Nat.le_of_ble_eq_true rfl⟩ rfl rfl (cats_le _ (Nat.le_of_ble_eq_true rfl)) hl.1 dLaw_law_665 ⟨Nat.le_trans (Nat.add_le_add_left (Nat.le_of_ble_eq_true rfl) _) hcl, Nat.le_trans (Nat.add_le_add_left (Nat.le_of_ble_eq_true rfl) _) hsl⟩ (fun H3 locs3 J3 => ?_)
  refine lv_iload hx hb dLaw_law_668 (lv_at hl 1 rfl) ?_
  refine lv_icmp_eq (tgt := 675) hx hb dLaw_law_670 (by decide) (fun _ => ?_) (fun q => absurd hth q)
  refine lv_iload hx hb dLaw_law_675 (lv_at hl 1 rfl) ?_
  have fin : W p l e room_1 s m #[Value.ref b] below meth c H3 locs3 (cells + 12) (slots + 700) Q (F0 m 3212 ls []) := kk g1 σ1 τ2 α1 _ fd H3 locs3 ls hR1 J3 (lv_sub hl [2, 3, 4, 5, 6, 7] rfl)
  refine W.widen (k := cells + 12) (n := slots + 700) (Nat.add_le_add_left (Nat.le_of_ble_eq_true rfl) _) (Nat.add_le_add_left (Nat.le_of_ble_eq_true rfl) _) ?_
  refine lv_if_ne (tgt := 692) hx hb dLaw_law_677 (by decide) (fun q => ?_) (fun q => ?_)
  · refine lv_goto (tgt := 3212) hx hb dLaw_law_692 (by decide) ?_
    exact fin
  · rcases hrr with ⟨k0, rfl⟩ | ⟨k0, k1⟩
    · refine lv_aload_n hx hb dLaw_law_680 rfl (lv_at hl 5 rfl) ?_
      refine lv_iconst (v := (0 : Int32)) hx hb dLaw_law_681 (by decide) ?_
      refine va_lald hx hb X.2.2.1.2.2.1 J3.2.2.1.1 0 0 rfl rfl vp01 dLaw_law_682 ?_
      refine lv_iload hx hb dLaw_law_683 (lv_at hl 0 rfl) ?_
      refine lv_i2l hx hb dLaw_law_685 rfl ?_
      refine W.lcmp hx hb dLaw_law_686 ?_
      refine lv_if_eq (tgt := 692) hx hb dLaw_law_687 (by decide) (fun _ => ?_) (fun q => absurd (lg0.mpr (rfl)) q)
      refine lv_goto (tgt := 3212) hx hb dLaw_law_692 (by decide) ?_
      exact fin
    · exact absurd q (nz_k k0 k1)
theorem lw_thing : lCallS 222 yLaw_thing cLaw_thing 7 (lHh [4, 1, 3, 2] 14 (fun j => ([17, 21, 25, 29] : List Nat).getD j 0)) 6 := ⟨⟨wl_in (i := 855) (by decide +kernel), wl_in (i := 856) (by decide +kernel), wl_in (i := 0) (by decide +kernel), wl_in (i := 857) (by decide +kernel)⟩, by decide, by decide, by decide +kernel⟩
theorem mwl_thing : cCallV RV 225 RX12 yX12_thing cX12_thing 5 (some .int) 4 := ⟨⟨wl_in (i := 2074) (by decide +kernel), wl_in (i := 2075) (by decide +kernel), wl_in (i := 2076) (by decide +kernel), wl_in (i := 16) (by decide +kernel), wl_in (i := 2077) (by decide +kernel)⟩, rfl, by decide, by decide, by decide +kernel⟩
set_option maxHeartbeats 4000000 in
set_option maxRecDepth 100000 in
theorem lc_thing {p : Program} {l : Launch} {e : Env} {s : State} {m : MethodId} {below : List Frame} {meth : Method} {c : Code} {H : Heap} {locs : List Loc} {cells slots : Nat} {Q : State → Prop} {b L : Nat} {xs : Nat → Int32} {ls : Array Slot} {D Dm : va_G} {ca cm : Nat → ClassId} {cO cOd : ClassId} {α0 α : cAl} {lo hm hi bo bd : Nat} {μ : Nat → Nat} {g : Gm} {σ : cS} {τ : mS} {f : Nat → Int64} {fd : Nat → UInt64} {i : Nat} (hst : l.stackTraces = false) (hL : L ≤ 2560) (X : lX p s m c b L xs D Dm ca cm cO cOd α0 lo hm hi bo bd) (J : lJ s D Dm ca cm cO cOd α0 lo hm hi bo bd μ σ τ α f fd H locs) (hR : Rel g σ τ) (h5 : i + 5 ≤ L) (hl : lv_has ls 9 [(0, .ref b), (1, .ref (α0 0 0)), (2, .ref (μ 0)), (3, .ref bo), (4, .ref bd), (5, .int (nI i))]) (hcl : cells + 12 ≤ room_1.cells) (hsl : slots + 700 ≤ room_1.slots)
    (kk : ∀ (g' : Gm) (σ' : cS) (τ' : mS) (α' : cAl) (f' : Nat → Int64) (fd' : Nat → UInt64) (H' : Heap) (locs' : List Loc) (ls' : Array Slot), Rel g' σ' τ' → lJ s D Dm ca cm cO cOd α0 lo hm hi bo bd μ σ' τ' α' f' fd' H' locs' → lv_has ls' 9 [(0, .ref b), (1, .ref (α0 0 0)), (2, .ref (μ 0)), (3, .ref bo), (4, .ref bd), (5, .int (nI i))] → W p l e room_1 s m #[Value.ref b] below meth c H' locs' (cells + 12) (slots + 700) Q (F0 m 3212 ls' [])) :
    W p l e room_1 s m #[Value.ref b] below meth c H locs cells slots Q (F0 m 695 ls []) := by
  obtain ⟨hx, hb, -, -, -⟩ := id X.1
  obtain ⟨hbo, -⟩ := l_nbo X
  obtain ⟨h17, -⟩ := l_n17 X J
  obtain ⟨c4, hc4, e4⟩ := l_char (xs (i + 4))
  obtain ⟨g1, r, σ1, v, τ2, hfc, hfm, hagr, hR1⟩ := meth_thing hR (xs (i + 1)) (xs (i + 2)) (xs (i + 3)) hc4
  obtain ⟨j, hj1, hth, hrr⟩ := hagr.use (by decide)
  refine lv_aload_n hx hb dLaw_law_695 rfl (lv_at hl 1 rfl) ?_
  refine l_arg (i := i) (k := 1) X J.2.2.2.1 hL (by omega) (by decide) (lv_at hl 0 rfl) (lv_at hl 5 rfl) dLaw_law_696 dLaw_law_697 dLaw_law_699 dLaw_law_700 dLaw_law_701 ?_
  refine l_arg (i := i) (k := 2) X J.2.2.2.1 hL (by omega) (by decide) (lv_at hl 0 rfl) (lv_at hl 5 rfl) dLaw_law_702 dLaw_law_703 dLaw_law_705 dLaw_law_706 dLaw_law_707 ?_
  refine l_arg (i := i) (k := 3) X J.2.2.2.1 hL (by omega) (by decide) (lv_at hl 0 rfl) (lv_at hl 5 rfl) dLaw_law_708 dLaw_law_709 dLaw_law_711 dLaw_law_712 dLaw_law_713 ?_
  refine l_arg (i := i) (k := 4) X J.2.2.2.1 hL (by omega) (by decide) (lv_at hl 0 rfl) (lv_at hl 5 rfl) dLaw_law_714 dLaw_law_715 dLaw_law_717 dLaw_law_718 dLaw_law_719 ?_
  refine lv_i2c hx hb dLaw_law_720 e4 ?_
  refine lv_aload_n hx hb dLaw_law_721 rfl (lv_at hl 3 rfl) ?_
  refine l_wr (As := [.int (xs (i + 1)), .int (xs (i + 2)), .int (xs (i + 3)), .int (nI c4), .ref bo]) (rest := []) X J (cv_thing l hst D ca (lA s.heap.size lo hi) bo cO α σ f hbo h17 (xs (i + 1)) (xs (i + 2)) (xs (i + 3)) (nI c4) (r, σ1) hfc j hj1) lw_thing ⟨rfl, rfl⟩ ⟨Nat.le_of_ble_eq_true rfl, Nat.le_of_ble_eq_true rfl⟩ rfl rfl (cats_le _ (Nat.le_of_ble_eq_true rfl)) hl.1 dLaw_law_722 ⟨Nat.le_trans (Nat.add_le_add_left (Nat.le_of_ble_eq_true rfl) _) hcl, Nat.le_trans (Nat.add_le_add_left (Nat.le_of_ble_eq_true rfl) _) hsl⟩ (fun α1 H1 locs1 J1 => ?_)
  refine lv_istore (lv' := [(6, .int (nI (lK j r))), (0, .ref b), (1, .ref (α0 0 0)), (2, .ref (μ 0)), (3, .ref bo), (4, .ref bd), (5, .int (nI i))]) hx hb dLaw_law_725 hl (by decide) rfl (fun ls hl => ?_)
  refine lv_aload_n hx hb dLaw_law_727 rfl (lv_at hl 3 rfl) ?_
  refine l_arg (i := i) (k := 1) X J1.2.2.2.1 hL (by omega) (by decide) (lv_at hl 1 rfl) (lv_at hl 6 rfl) dLaw_law_728 dLaw_law_729 dLaw_law_731 dLaw_law_732 dLaw_law_733 ?_
  refine l_arg (i := i) (k := 2) X J1.2.2.2.1 hL (by omega) (by decide) (lv_at hl 1 rfl) (lv_at hl 6 rfl) dLaw_law_734 dLaw_law_735 dLaw_law_737 dLaw_law_738 dLaw_law_739 ?_
  refine l_arg (i := i) (k := 3) X J1.2.2.2.1 hL (by omega) (by decide) (lv_at hl 1 rfl) (lv_at hl 6 rfl) dLaw_law_740 dLaw_law_741 dLaw_law_743 dLaw_law_744 dLaw_law_745 ?_
  refine l_arg (i := i) (k := 4) X J1.2.2.2.1 hL (by omega) (by decide) (lv_at hl 1 rfl) (lv_at hl 6 rfl) dLaw_law_746 dLaw_law_747 dLaw_law_749 dLaw_law_750 dLaw_law_751 ?_
  refine lv_i2c hx hb dLaw_law_752 e4 ?_
  refine l_modI (As := [.int (xs (i + 1)), .int (xs (i + 2)), .int (xs (i + 3)), .int (nI c4)]) (rest := []) X J1 (cm_thing l Dm cm μ (lB lo hm) τ (xs (i + 1)) (xs (i + 2)) (xs (i + 3)) (nI c4) (v, τ2) hfm) mwl_thing ⟨rfl, rfl⟩ ⟨Nat.le_of_ble_eq_true rfl, Nat.le_of_ble_eq_true rfl⟩ rfl rfl (cats_le _ (Nat.le_of_ble_eq_true rfl)) hl.1 dLaw_law_753 ⟨Nat.le_trans (Nat.add_le_add_left (Nat.le_of_ble_eq_true rfl) _) hcl, Nat.le_trans (Nat.add_le_add_left (Nat.le_of_ble_eq_true rfl) _) hsl⟩ (fun H2 locs2 J2 => ?_)
  refine lv_istore (lv' := [(7, .int v), (6, .int (nI (lK j r))), (0, .ref b), (1, .ref (α0 0 0)), (2, .ref (μ 0)), (3, .ref bo), (4, .ref bd), (5, .int (nI i))]) hx hb dLaw_law_756 hl (by decide) rfl (fun ls hl => ?_)
  refine lv_aload_n hx hb dLaw_law_758 rfl (lv_at hl 4 rfl) ?_
  refine l_modI (As := []) (rest := []) X J2 (cm_thrown l Dm cm μ (lB lo hm) τ2 (τ2.1 0, τ2) rfl) mwl_thrown ⟨rfl, rfl⟩ ⟨Nat.le_of_ble_eq_true rfl, Nat.le_of_ble_eq_true rfl⟩ rfl rfl (cats_le _ (Nat.le_of_ble_eq_true rfl)) hl.1 dLaw_law_759 ⟨Nat.le_trans (Nat.add_le_add_left (Nat.le_of_ble_eq_true rfl) _) hcl, Nat.le_trans (Nat.add_le_add_left (Nat.le_of_ble_eq_true rfl) _) hsl⟩ (fun H3 locs3 J3 => ?_)
  refine lv_iload hx hb dLaw_law_762 (lv_at hl 1 rfl) ?_
  refine lv_icmp_eq (tgt := 769) hx hb dLaw_law_764 (by decide) (fun _ => ?_) (fun q => absurd hth q)
  refine lv_iload hx hb dLaw_law_769 (lv_at hl 1 rfl) ?_
  have fin : W p l e room_1 s m #[Value.ref b] below meth c H3 locs3 (cells + 12) (slots + 700) Q (F0 m 3212 ls []) := kk g1 σ1 τ2 α1 _ fd H3 locs3 ls hR1 J3 (lv_sub hl [2, 3, 4, 5, 6, 7] rfl)
  refine W.widen (k := cells + 12) (n := slots + 700) (Nat.add_le_add_left (Nat.le_of_ble_eq_true rfl) _) (Nat.add_le_add_left (Nat.le_of_ble_eq_true rfl) _) ?_
  refine lv_if_ne (tgt := 786) hx hb dLaw_law_771 (by decide) (fun q => ?_) (fun q => ?_)
  · refine lv_goto (tgt := 3212) hx hb dLaw_law_786 (by decide) ?_
    exact fin
  · rcases hrr with ⟨k0, rfl⟩ | ⟨k0, k1⟩
    · refine lv_aload_n hx hb dLaw_law_774 rfl (lv_at hl 5 rfl) ?_
      refine lv_iconst (v := (0 : Int32)) hx hb dLaw_law_775 (by decide) ?_
      refine va_lald hx hb X.2.2.1.2.2.1 J3.2.2.1.1 0 0 rfl rfl vp01 dLaw_law_776 ?_
      refine lv_iload hx hb dLaw_law_777 (lv_at hl 0 rfl) ?_
      refine lv_i2l hx hb dLaw_law_779 rfl ?_
      refine W.lcmp hx hb dLaw_law_780 ?_
      refine lv_if_eq (tgt := 786) hx hb dLaw_law_781 (by decide) (fun _ => ?_) (fun q => absurd (lg0.mpr (rfl)) q)
      refine lv_goto (tgt := 3212) hx hb dLaw_law_786 (by decide) ?_
      exact fin
    · exact absurd q (nz_k k0 k1)
theorem lw_fuel : lCallS 226 yLaw_fuel cLaw_fuel 5 (lHh [4, 1, 3, 2] 10 (fun j => ([13, 17, 21, 25] : List Nat).getD j 0)) 4 := ⟨⟨wl_in (i := 867) (by decide +kernel), wl_in (i := 868) (by decide +kernel), wl_in (i := 0) (by decide +kernel), wl_in (i := 869) (by decide +kernel)⟩, by decide, by decide, by decide +kernel⟩
theorem mwl_fuel : cCallV RV 228 RX12 yX12_fuel cX12_fuel 4 (some .int) 2 := ⟨⟨wl_in (i := 2082) (by decide +kernel), wl_in (i := 2083) (by decide +kernel), wl_in (i := 2084) (by decide +kernel), wl_in (i := 16) (by decide +kernel), wl_in (i := 2085) (by decide +kernel)⟩, rfl, by decide, by decide, by decide +kernel⟩
set_option maxHeartbeats 4000000 in
set_option maxRecDepth 100000 in
theorem lc_fuel {p : Program} {l : Launch} {e : Env} {s : State} {m : MethodId} {below : List Frame} {meth : Method} {c : Code} {H : Heap} {locs : List Loc} {cells slots : Nat} {Q : State → Prop} {b L : Nat} {xs : Nat → Int32} {ls : Array Slot} {D Dm : va_G} {ca cm : Nat → ClassId} {cO cOd : ClassId} {α0 α : cAl} {lo hm hi bo bd : Nat} {μ : Nat → Nat} {g : Gm} {σ : cS} {τ : mS} {f : Nat → Int64} {fd : Nat → UInt64} {i : Nat} (hst : l.stackTraces = false) (hL : L ≤ 2560) (X : lX p s m c b L xs D Dm ca cm cO cOd α0 lo hm hi bo bd) (J : lJ s D Dm ca cm cO cOd α0 lo hm hi bo bd μ σ τ α f fd H locs) (hR : Rel g σ τ) (h5 : i + 5 ≤ L) (hl : lv_has ls 9 [(0, .ref b), (1, .ref (α0 0 0)), (2, .ref (μ 0)), (3, .ref bo), (4, .ref bd), (5, .int (nI i))]) (hcl : cells + 12 ≤ room_1.cells) (hsl : slots + 700 ≤ room_1.slots)
    (kk : ∀ (g' : Gm) (σ' : cS) (τ' : mS) (α' : cAl) (f' : Nat → Int64) (fd' : Nat → UInt64) (H' : Heap) (locs' : List Loc) (ls' : Array Slot), Rel g' σ' τ' → lJ s D Dm ca cm cO cOd α0 lo hm hi bo bd μ σ' τ' α' f' fd' H' locs' → lv_has ls' 9 [(0, .ref b), (1, .ref (α0 0 0)), (2, .ref (μ 0)), (3, .ref bo), (4, .ref bd), (5, .int (nI i))] → W p l e room_1 s m #[Value.ref b] below meth c H' locs' (cells + 12) (slots + 700) Q (F0 m 3212 ls' [])) :
    W p l e room_1 s m #[Value.ref b] below meth c H locs cells slots Q (F0 m 789 ls []) := by
  obtain ⟨hx, hb, -, -, -⟩ := id X.1
  obtain ⟨hbo, -⟩ := l_nbo X
  obtain ⟨h17, -⟩ := l_n17 X J
  obtain ⟨g1, r, σ1, v, τ2, hfc, hfm, hagr, hR1⟩ := meth_fuel hR (xs (i + 1)) (xs (i + 2))
  obtain ⟨j, hj1, hth, hrr⟩ := hagr.use (by decide)
  refine lv_aload_n hx hb dLaw_law_789 rfl (lv_at hl 1 rfl) ?_
  refine l_arg (i := i) (k := 1) X J.2.2.2.1 hL (by omega) (by decide) (lv_at hl 0 rfl) (lv_at hl 5 rfl) dLaw_law_790 dLaw_law_791 dLaw_law_793 dLaw_law_794 dLaw_law_795 ?_
  refine l_arg (i := i) (k := 2) X J.2.2.2.1 hL (by omega) (by decide) (lv_at hl 0 rfl) (lv_at hl 5 rfl) dLaw_law_796 dLaw_law_797 dLaw_law_799 dLaw_law_800 dLaw_law_801 ?_
  refine lv_aload_n hx hb dLaw_law_802 rfl (lv_at hl 3 rfl) ?_
  refine l_wr (As := [.int (xs (i + 1)), .int (xs (i + 2)), .ref bo]) (rest := []) X J (cv_fuel l hst D ca (lA s.heap.size lo hi) bo cO α σ f hbo h17 (xs (i + 1)) (xs (i + 2)) (r, σ1) hfc j hj1) lw_fuel ⟨rfl, rfl⟩ ⟨Nat.le_of_ble_eq_true rfl, Nat.le_of_ble_eq_true rfl⟩ rfl rfl (cats_le _ (Nat.le_of_ble_eq_true rfl)) hl.1 dLaw_law_803 ⟨Nat.le_trans (Nat.add_le_add_left (Nat.le_of_ble_eq_true rfl) _) hcl, Nat.le_trans (Nat.add_le_add_left (Nat.le_of_ble_eq_true rfl) _) hsl⟩ (fun α1 H1 locs1 J1 => ?_)
  refine lv_istore (lv' := [(6, .int (nI (lK j r))), (0, .ref b), (1, .ref (α0 0 0)), (2, .ref (μ 0)), (3, .ref bo), (4, .ref bd), (5, .int (nI i))]) hx hb dLaw_law_806 hl (by decide) rfl (fun ls hl => ?_)
  refine lv_aload_n hx hb dLaw_law_808 rfl (lv_at hl 3 rfl) ?_
  refine l_arg (i := i) (k := 1) X J1.2.2.2.1 hL (by omega) (by decide) (lv_at hl 1 rfl) (lv_at hl 6 rfl) dLaw_law_809 dLaw_law_810 dLaw_law_812 dLaw_law_813 dLaw_law_814 ?_
  refine l_arg (i := i) (k := 2) X J1.2.2.2.1 hL (by omega) (by decide) (lv_at hl 1 rfl) (lv_at hl 6 rfl) dLaw_law_815 dLaw_law_816 dLaw_law_818 dLaw_law_819 dLaw_law_820 ?_
  refine l_modI (As := [.int (xs (i + 1)), .int (xs (i + 2))]) (rest := []) X J1 (cm_fuel l Dm cm μ (lB lo hm) τ (xs (i + 1)) (xs (i + 2)) (v, τ2) hfm) mwl_fuel ⟨rfl, rfl⟩ ⟨Nat.le_of_ble_eq_true rfl, Nat.le_of_ble_eq_true rfl⟩ rfl rfl (cats_le _ (Nat.le_of_ble_eq_true rfl)) hl.1 dLaw_law_821 ⟨Nat.le_trans (Nat.add_le_add_left (Nat.le_of_ble_eq_true rfl) _) hcl, Nat.le_trans (Nat.add_le_add_left (Nat.le_of_ble_eq_true rfl) _) hsl⟩ (fun H2 locs2 J2 => ?_)
  refine lv_istore (lv' := [(7, .int v), (6, .int (nI (lK j r))), (0, .ref b), (1, .ref (α0 0 0)), (2, .ref (μ 0)), (3, .ref bo), (4, .ref bd), (5, .int (nI i))]) hx hb dLaw_law_824 hl (by decide) rfl (fun ls hl => ?_)
  refine lv_aload_n hx hb dLaw_law_826 rfl (lv_at hl 4 rfl) ?_
  refine l_modI (As := []) (rest := []) X J2 (cm_thrown l Dm cm μ (lB lo hm) τ2 (τ2.1 0, τ2) rfl) mwl_thrown ⟨rfl, rfl⟩ ⟨Nat.le_of_ble_eq_true rfl, Nat.le_of_ble_eq_true rfl⟩ rfl rfl (cats_le _ (Nat.le_of_ble_eq_true rfl)) hl.1 dLaw_law_827 ⟨Nat.le_trans (Nat.add_le_add_left (Nat.le_of_ble_eq_true rfl) _) hcl, Nat.le_trans (Nat.add_le_add_left (Nat.le_of_ble_eq_true rfl) _) hsl⟩ (fun H3 locs3 J3 => ?_)
  refine lv_iload hx hb dLaw_law_830 (lv_at hl 1 rfl) ?_
  refine lv_icmp_eq (tgt := 837) hx hb dLaw_law_832 (by decide) (fun _ => ?_) (fun q => absurd hth q)
  refine lv_iload hx hb dLaw_law_837 (lv_at hl 1 rfl) ?_
  have fin : W p l e room_1 s m #[Value.ref b] below meth c H3 locs3 (cells + 12) (slots + 700) Q (F0 m 3212 ls []) := kk g1 σ1 τ2 α1 _ fd H3 locs3 ls hR1 J3 (lv_sub hl [2, 3, 4, 5, 6, 7] rfl)
  refine W.widen (k := cells + 12) (n := slots + 700) (Nat.add_le_add_left (Nat.le_of_ble_eq_true rfl) _) (Nat.add_le_add_left (Nat.le_of_ble_eq_true rfl) _) ?_
  refine lv_if_ne (tgt := 854) hx hb dLaw_law_839 (by decide) (fun q => ?_) (fun q => ?_)
  · refine lv_goto (tgt := 3212) hx hb dLaw_law_854 (by decide) ?_
    exact fin
  · rcases hrr with ⟨k0, rfl⟩ | ⟨k0, k1⟩
    · refine lv_aload_n hx hb dLaw_law_842 rfl (lv_at hl 5 rfl) ?_
      refine lv_iconst (v := (0 : Int32)) hx hb dLaw_law_843 (by decide) ?_
      refine va_lald hx hb X.2.2.1.2.2.1 J3.2.2.1.1 0 0 rfl rfl vp01 dLaw_law_844 ?_
      refine lv_iload hx hb dLaw_law_845 (lv_at hl 0 rfl) ?_
      refine lv_i2l hx hb dLaw_law_847 rfl ?_
      refine W.lcmp hx hb dLaw_law_848 ?_
      refine lv_if_eq (tgt := 854) hx hb dLaw_law_849 (by decide) (fun _ => ?_) (fun q => absurd (lg0.mpr (rfl)) q)
      refine lv_goto (tgt := 3212) hx hb dLaw_law_854 (by decide) ?_
      exact fin
    · exact absurd q (nz_k k0 k1)
theorem lw_tell : lCallS 229 yLaw_tell cLaw_tell 5 (lHh [4, 2] 10 (fun j => ([13, 17] : List Nat).getD j 0)) 4 := ⟨⟨wl_in (i := 880) (by decide +kernel), wl_in (i := 881) (by decide +kernel), wl_in (i := 0) (by decide +kernel), wl_in (i := 882) (by decide +kernel)⟩, by decide, by decide, by decide +kernel⟩
theorem mwl_tell : cCallV RV 231 RX12 yX12_tell cX12_tell 3 (some .int) 2 := ⟨⟨wl_in (i := 2086) (by decide +kernel), wl_in (i := 2087) (by decide +kernel), wl_in (i := 2088) (by decide +kernel), wl_in (i := 16) (by decide +kernel), wl_in (i := 2089) (by decide +kernel)⟩, rfl, by decide, by decide, by decide +kernel⟩
set_option maxHeartbeats 4000000 in
set_option maxRecDepth 100000 in
theorem lc_tell {p : Program} {l : Launch} {e : Env} {s : State} {m : MethodId} {below : List Frame} {meth : Method} {c : Code} {H : Heap} {locs : List Loc} {cells slots : Nat} {Q : State → Prop} {b L : Nat} {xs : Nat → Int32} {ls : Array Slot} {D Dm : va_G} {ca cm : Nat → ClassId} {cO cOd : ClassId} {α0 α : cAl} {lo hm hi bo bd : Nat} {μ : Nat → Nat} {g : Gm} {σ : cS} {τ : mS} {f : Nat → Int64} {fd : Nat → UInt64} {i : Nat} (hst : l.stackTraces = false) (hL : L ≤ 2560) (X : lX p s m c b L xs D Dm ca cm cO cOd α0 lo hm hi bo bd) (J : lJ s D Dm ca cm cO cOd α0 lo hm hi bo bd μ σ τ α f fd H locs) (hR : Rel g σ τ) (h5 : i + 5 ≤ L) (hl : lv_has ls 9 [(0, .ref b), (1, .ref (α0 0 0)), (2, .ref (μ 0)), (3, .ref bo), (4, .ref bd), (5, .int (nI i))]) (hcl : cells + 12 ≤ room_1.cells) (hsl : slots + 700 ≤ room_1.slots)
    (kk : ∀ (g' : Gm) (σ' : cS) (τ' : mS) (α' : cAl) (f' : Nat → Int64) (fd' : Nat → UInt64) (H' : Heap) (locs' : List Loc) (ls' : Array Slot), Rel g' σ' τ' → lJ s D Dm ca cm cO cOd α0 lo hm hi bo bd μ σ' τ' α' f' fd' H' locs' → lv_has ls' 9 [(0, .ref b), (1, .ref (α0 0 0)), (2, .ref (μ 0)), (3, .ref bo), (4, .ref bd), (5, .int (nI i))] → W p l e room_1 s m #[Value.ref b] below meth c H' locs' (cells + 12) (slots + 700) Q (F0 m 3212 ls' [])) :
    W p l e room_1 s m #[Value.ref b] below meth c H locs cells slots Q (F0 m 857 ls []) := by
  obtain ⟨hx, hb, -, -, -⟩ := id X.1
  obtain ⟨hbo, -⟩ := l_nbo X
  obtain ⟨h17, -⟩ := l_n17 X J
  obtain ⟨g1, r, σ1, v, τ2, hfc, hfm, hagr, hR1⟩ := meth_tell hR (xs (i + 1)) (xs (i + 2))
  obtain ⟨j, hj1, hth, hrr⟩ := hagr.use (by decide)
  refine lv_aload_n hx hb dLaw_law_857 rfl (lv_at hl 1 rfl) ?_
  refine l_arg (i := i) (k := 1) X J.2.2.2.1 hL (by omega) (by decide) (lv_at hl 0 rfl) (lv_at hl 5 rfl) dLaw_law_858 dLaw_law_859 dLaw_law_861 dLaw_law_862 dLaw_law_863 ?_
  refine l_arg (i := i) (k := 2) X J.2.2.2.1 hL (by omega) (by decide) (lv_at hl 0 rfl) (lv_at hl 5 rfl) dLaw_law_864 dLaw_law_865 dLaw_law_867 dLaw_law_868 dLaw_law_869 ?_
  refine lv_aload_n hx hb dLaw_law_870 rfl (lv_at hl 3 rfl) ?_
  refine l_wr (As := [.int (xs (i + 1)), .int (xs (i + 2)), .ref bo]) (rest := []) X J (cv_tell l hst D ca (lA s.heap.size lo hi) bo cO α σ f hbo h17 (xs (i + 1)) (xs (i + 2)) (r, σ1) hfc j hj1) lw_tell ⟨rfl, rfl⟩ ⟨Nat.le_of_ble_eq_true rfl, Nat.le_of_ble_eq_true rfl⟩ rfl rfl (cats_le _ (Nat.le_of_ble_eq_true rfl)) hl.1 dLaw_law_871 ⟨Nat.le_trans (Nat.add_le_add_left (Nat.le_of_ble_eq_true rfl) _) hcl, Nat.le_trans (Nat.add_le_add_left (Nat.le_of_ble_eq_true rfl) _) hsl⟩ (fun α1 H1 locs1 J1 => ?_)
  refine lv_istore (lv' := [(6, .int (nI (lK j r))), (0, .ref b), (1, .ref (α0 0 0)), (2, .ref (μ 0)), (3, .ref bo), (4, .ref bd), (5, .int (nI i))]) hx hb dLaw_law_874 hl (by decide) rfl (fun ls hl => ?_)
  refine lv_aload_n hx hb dLaw_law_876 rfl (lv_at hl 3 rfl) ?_
  refine l_arg (i := i) (k := 1) X J1.2.2.2.1 hL (by omega) (by decide) (lv_at hl 1 rfl) (lv_at hl 6 rfl) dLaw_law_877 dLaw_law_878 dLaw_law_880 dLaw_law_881 dLaw_law_882 ?_
  refine l_arg (i := i) (k := 2) X J1.2.2.2.1 hL (by omega) (by decide) (lv_at hl 1 rfl) (lv_at hl 6 rfl) dLaw_law_883 dLaw_law_884 dLaw_law_886 dLaw_law_887 dLaw_law_888 ?_
  refine l_modI (As := [.int (xs (i + 1)), .int (xs (i + 2))]) (rest := []) X J1 (cm_tell l Dm cm μ (lB lo hm) τ (xs (i + 1)) (xs (i + 2)) (v, τ2) hfm) mwl_tell ⟨rfl, rfl⟩ ⟨Nat.le_of_ble_eq_true rfl, Nat.le_of_ble_eq_true rfl⟩ rfl rfl (cats_le _ (Nat.le_of_ble_eq_true rfl)) hl.1 dLaw_law_889 ⟨Nat.le_trans (Nat.add_le_add_left (Nat.le_of_ble_eq_true rfl) _) hcl, Nat.le_trans (Nat.add_le_add_left (Nat.le_of_ble_eq_true rfl) _) hsl⟩ (fun H2 locs2 J2 => ?_)
  refine lv_istore (lv' := [(7, .int v), (6, .int (nI (lK j r))), (0, .ref b), (1, .ref (α0 0 0)), (2, .ref (μ 0)), (3, .ref bo), (4, .ref bd), (5, .int (nI i))]) hx hb dLaw_law_892 hl (by decide) rfl (fun ls hl => ?_)
  refine lv_aload_n hx hb dLaw_law_894 rfl (lv_at hl 4 rfl) ?_
  refine l_modI (As := []) (rest := []) X J2 (cm_thrown l Dm cm μ (lB lo hm) τ2 (τ2.1 0, τ2) rfl) mwl_thrown ⟨rfl, rfl⟩ ⟨Nat.le_of_ble_eq_true rfl, Nat.le_of_ble_eq_true rfl⟩ rfl rfl (cats_le _ (Nat.le_of_ble_eq_true rfl)) hl.1 dLaw_law_895 ⟨Nat.le_trans (Nat.add_le_add_left (Nat.le_of_ble_eq_true rfl) _) hcl, Nat.le_trans (Nat.add_le_add_left (Nat.le_of_ble_eq_true rfl) _) hsl⟩ (fun H3 locs3 J3 => ?_)
  refine lv_iload hx hb dLaw_law_898 (lv_at hl 1 rfl) ?_
  refine lv_icmp_eq (tgt := 905) hx hb dLaw_law_900 (by decide) (fun _ => ?_) (fun q => absurd hth q)
  refine lv_iload hx hb dLaw_law_905 (lv_at hl 1 rfl) ?_
  have fin : W p l e room_1 s m #[Value.ref b] below meth c H3 locs3 (cells + 12) (slots + 700) Q (F0 m 3212 ls []) := kk g1 σ1 τ2 α1 _ fd H3 locs3 ls hR1 J3 (lv_sub hl [2, 3, 4, 5, 6, 7] rfl)
  refine W.widen (k := cells + 12) (n := slots + 700) (Nat.add_le_add_left (Nat.le_of_ble_eq_true rfl) _) (Nat.add_le_add_left (Nat.le_of_ble_eq_true rfl) _) ?_
  refine lv_if_ne (tgt := 922) hx hb dLaw_law_907 (by decide) (fun q => ?_) (fun q => ?_)
  · refine lv_goto (tgt := 3212) hx hb dLaw_law_922 (by decide) ?_
    exact fin
  · rcases hrr with ⟨k0, rfl⟩ | ⟨k0, k1⟩
    · refine lv_aload_n hx hb dLaw_law_910 rfl (lv_at hl 5 rfl) ?_
      refine lv_iconst (v := (0 : Int32)) hx hb dLaw_law_911 (by decide) ?_
      refine va_lald hx hb X.2.2.1.2.2.1 J3.2.2.1.1 0 0 rfl rfl vp01 dLaw_law_912 ?_
      refine lv_iload hx hb dLaw_law_913 (lv_at hl 0 rfl) ?_
      refine lv_i2l hx hb dLaw_law_915 rfl ?_
      refine W.lcmp hx hb dLaw_law_916 ?_
      refine lv_if_eq (tgt := 922) hx hb dLaw_law_917 (by decide) (fun _ => ?_) (fun q => absurd (lg0.mpr (rfl)) q)
      refine lv_goto (tgt := 3212) hx hb dLaw_law_922 (by decide) ?_
      exact fin
    · exact absurd q (nz_k k0 k1)
theorem lw_goal : lCallS 232 yLaw_goal cLaw_goal 5 (lHh [4, 2] 10 (fun j => ([13, 17] : List Nat).getD j 0)) 4 := ⟨⟨wl_in (i := 887) (by decide +kernel), wl_in (i := 888) (by decide +kernel), wl_in (i := 0) (by decide +kernel), wl_in (i := 889) (by decide +kernel)⟩, by decide, by decide, by decide +kernel⟩
theorem mwl_goal : cCallV RV 234 RX12 yX12_goal cX12_goal 3 (some .int) 2 := ⟨⟨wl_in (i := 2090) (by decide +kernel), wl_in (i := 2091) (by decide +kernel), wl_in (i := 2092) (by decide +kernel), wl_in (i := 16) (by decide +kernel), wl_in (i := 2093) (by decide +kernel)⟩, rfl, by decide, by decide, by decide +kernel⟩
set_option maxHeartbeats 4000000 in
set_option maxRecDepth 100000 in
theorem lc_goal {p : Program} {l : Launch} {e : Env} {s : State} {m : MethodId} {below : List Frame} {meth : Method} {c : Code} {H : Heap} {locs : List Loc} {cells slots : Nat} {Q : State → Prop} {b L : Nat} {xs : Nat → Int32} {ls : Array Slot} {D Dm : va_G} {ca cm : Nat → ClassId} {cO cOd : ClassId} {α0 α : cAl} {lo hm hi bo bd : Nat} {μ : Nat → Nat} {g : Gm} {σ : cS} {τ : mS} {f : Nat → Int64} {fd : Nat → UInt64} {i : Nat} (hst : l.stackTraces = false) (hL : L ≤ 2560) (X : lX p s m c b L xs D Dm ca cm cO cOd α0 lo hm hi bo bd) (J : lJ s D Dm ca cm cO cOd α0 lo hm hi bo bd μ σ τ α f fd H locs) (hR : Rel g σ τ) (h5 : i + 5 ≤ L) (hl : lv_has ls 9 [(0, .ref b), (1, .ref (α0 0 0)), (2, .ref (μ 0)), (3, .ref bo), (4, .ref bd), (5, .int (nI i))]) (hcl : cells + 12 ≤ room_1.cells) (hsl : slots + 700 ≤ room_1.slots)
    (kk : ∀ (g' : Gm) (σ' : cS) (τ' : mS) (α' : cAl) (f' : Nat → Int64) (fd' : Nat → UInt64) (H' : Heap) (locs' : List Loc) (ls' : Array Slot), Rel g' σ' τ' → lJ s D Dm ca cm cO cOd α0 lo hm hi bo bd μ σ' τ' α' f' fd' H' locs' → lv_has ls' 9 [(0, .ref b), (1, .ref (α0 0 0)), (2, .ref (μ 0)), (3, .ref bo), (4, .ref bd), (5, .int (nI i))] → W p l e room_1 s m #[Value.ref b] below meth c H' locs' (cells + 12) (slots + 700) Q (F0 m 3212 ls' [])) :
    W p l e room_1 s m #[Value.ref b] below meth c H locs cells slots Q (F0 m 925 ls []) := by
  obtain ⟨hx, hb, -, -, -⟩ := id X.1
  obtain ⟨hbo, -⟩ := l_nbo X
  obtain ⟨h17, -⟩ := l_n17 X J
  obtain ⟨g1, r, σ1, v, τ2, hfc, hfm, hagr, hR1⟩ := meth_goal hR (xs (i + 1)) (xs (i + 2))
  obtain ⟨j, hj1, hth, hrr⟩ := hagr.use (by decide)
  refine lv_aload_n hx hb dLaw_law_925 rfl (lv_at hl 1 rfl) ?_
  refine l_arg (i := i) (k := 1) X J.2.2.2.1 hL (by omega) (by decide) (lv_at hl 0 rfl) (lv_at hl 5 rfl) dLaw_law_926 dLaw_law_927 dLaw_law_929 dLaw_law_930 dLaw_law_931 ?_
  refine l_arg (i := i) (k := 2) X J.2.2.2.1 hL (by omega) (by decide) (lv_at hl 0 rfl) (lv_at hl 5 rfl) dLaw_law_932 dLaw_law_933 dLaw_law_935 dLaw_law_936 dLaw_law_937 ?_
  refine lv_aload_n hx hb dLaw_law_938 rfl (lv_at hl 3 rfl) ?_
  refine l_wr (As := [.int (xs (i + 1)), .int (xs (i + 2)), .ref bo]) (rest := []) X J (cv_goal l hst D ca (lA s.heap.size lo hi) bo cO α σ f hbo h17 (xs (i + 1)) (xs (i + 2)) (r, σ1) hfc j hj1) lw_goal ⟨rfl, rfl⟩ ⟨Nat.le_of_ble_eq_true rfl, Nat.le_of_ble_eq_true rfl⟩ rfl rfl (cats_le _ (Nat.le_of_ble_eq_true rfl)) hl.1 dLaw_law_939 ⟨Nat.le_trans (Nat.add_le_add_left (Nat.le_of_ble_eq_true rfl) _) hcl, Nat.le_trans (Nat.add_le_add_left (Nat.le_of_ble_eq_true rfl) _) hsl⟩ (fun α1 H1 locs1 J1 => ?_)
  refine lv_istore (lv' := [(6, .int (nI (lK j r))), (0, .ref b), (1, .ref (α0 0 0)), (2, .ref (μ 0)), (3, .ref bo), (4, .ref bd), (5, .int (nI i))]) hx hb dLaw_law_942 hl (by decide) rfl (fun ls hl => ?_)
  refine lv_aload_n hx hb dLaw_law_944 rfl (lv_at hl 3 rfl) ?_
  refine l_arg (i := i) (k := 1) X J1.2.2.2.1 hL (by omega) (by decide) (lv_at hl 1 rfl) (lv_at hl 6 rfl) dLaw_law_945 dLaw_law_946 dLaw_law_948 dLaw_law_949 dLaw_law_950 ?_
  refine l_arg (i := i) (k := 2) X J1.2.2.2.1 hL (by omega) (by decide) (lv_at hl 1 rfl) (lv_at hl 6 rfl) dLaw_law_951 dLaw_law_952 dLaw_law_954 dLaw_law_955 dLaw_law_956 ?_
  refine l_modI (As := [.int (xs (i + 1)), .int (xs (i + 2))]) (rest := []) X J1 (cm_goal l Dm cm μ (lB lo hm) τ (xs (i + 1)) (xs (i + 2)) (v, τ2) hfm) mwl_goal ⟨rfl, rfl⟩ ⟨Nat.le_of_ble_eq_true rfl, Nat.le_of_ble_eq_true rfl⟩ rfl rfl (cats_le _ (Nat.le_of_ble_eq_true rfl)) hl.1 dLaw_law_957 ⟨Nat.le_trans (Nat.add_le_add_left (Nat.le_of_ble_eq_true rfl) _) hcl, Nat.le_trans (Nat.add_le_add_left (Nat.le_of_ble_eq_true rfl) _) hsl⟩ (fun H2 locs2 J2 => ?_)
  refine lv_istore (lv' := [(7, .int v), (6, .int (nI (lK j r))), (0, .ref b), (1, .ref (α0 0 0)), (2, .ref (μ 0)), (3, .ref bo), (4, .ref bd), (5, .int (nI i))]) hx hb dLaw_law_960 hl (by decide) rfl (fun ls hl => ?_)
  refine lv_aload_n hx hb dLaw_law_962 rfl (lv_at hl 4 rfl) ?_
  refine l_modI (As := []) (rest := []) X J2 (cm_thrown l Dm cm μ (lB lo hm) τ2 (τ2.1 0, τ2) rfl) mwl_thrown ⟨rfl, rfl⟩ ⟨Nat.le_of_ble_eq_true rfl, Nat.le_of_ble_eq_true rfl⟩ rfl rfl (cats_le _ (Nat.le_of_ble_eq_true rfl)) hl.1 dLaw_law_963 ⟨Nat.le_trans (Nat.add_le_add_left (Nat.le_of_ble_eq_true rfl) _) hcl, Nat.le_trans (Nat.add_le_add_left (Nat.le_of_ble_eq_true rfl) _) hsl⟩ (fun H3 locs3 J3 => ?_)
  refine lv_iload hx hb dLaw_law_966 (lv_at hl 1 rfl) ?_
  refine lv_icmp_eq (tgt := 973) hx hb dLaw_law_968 (by decide) (fun _ => ?_) (fun q => absurd hth q)
  refine lv_iload hx hb dLaw_law_973 (lv_at hl 1 rfl) ?_
  have fin : W p l e room_1 s m #[Value.ref b] below meth c H3 locs3 (cells + 12) (slots + 700) Q (F0 m 3212 ls []) := kk g1 σ1 τ2 α1 _ fd H3 locs3 ls hR1 J3 (lv_sub hl [2, 3, 4, 5, 6, 7] rfl)
  refine W.widen (k := cells + 12) (n := slots + 700) (Nat.add_le_add_left (Nat.le_of_ble_eq_true rfl) _) (Nat.add_le_add_left (Nat.le_of_ble_eq_true rfl) _) ?_
  refine lv_if_ne (tgt := 990) hx hb dLaw_law_975 (by decide) (fun q => ?_) (fun q => ?_)
  · refine lv_goto (tgt := 3212) hx hb dLaw_law_990 (by decide) ?_
    exact fin
  · rcases hrr with ⟨k0, rfl⟩ | ⟨k0, k1⟩
    · refine lv_aload_n hx hb dLaw_law_978 rfl (lv_at hl 5 rfl) ?_
      refine lv_iconst (v := (0 : Int32)) hx hb dLaw_law_979 (by decide) ?_
      refine va_lald hx hb X.2.2.1.2.2.1 J3.2.2.1.1 0 0 rfl rfl vp01 dLaw_law_980 ?_
      refine lv_iload hx hb dLaw_law_981 (lv_at hl 0 rfl) ?_
      refine lv_i2l hx hb dLaw_law_983 rfl ?_
      refine W.lcmp hx hb dLaw_law_984 ?_
      refine lv_if_eq (tgt := 990) hx hb dLaw_law_985 (by decide) (fun _ => ?_) (fun q => absurd (lg0.mpr (rfl)) q)
      refine lv_goto (tgt := 3212) hx hb dLaw_law_990 (by decide) ?_
      exact fin
    · exact absurd q (nz_k k0 k1)
