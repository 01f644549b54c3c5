/-! The law's cases. -/
theorem lw_earn : lCallS 330 yLaw_earn cLaw_earn 4 (lHh [1] 9 (fun j => ([12] : List Nat).getD j 0)) 3 := ⟨⟨wl_in (i := 1478) (by decide +kernel), wl_in (i := 1479) (by decide +kernel), wl_in (i := 0) (by decide +kernel), wl_in (i := 1480) (by decide +kernel)⟩, by decide, by decide, by decide +kernel⟩
theorem mwl_earn : cCallV RV 332 RX12 yX12_earn cX12_earn 2 (some .int) 1 := ⟨⟨wl_in (i := 2357) (by decide +kernel), wl_in (i := 2358) (by decide +kernel), wl_in (i := 2359) (by decide +kernel), wl_in (i := 16) (by decide +kernel), wl_in (i := 2360) (by decide +kernel)⟩, rfl, by decide, by decide, by decide +kernel⟩
set_option maxHeartbeats 4000000 in
set_option maxRecDepth 100000 in
theorem lc_earn {p : Program} {l : Launch} {e : Env} {s : State} {m : MethodId} {below : List Frame} {meth : Method} {c : Code} {H : Heap} {locs : List Loc} {cells slots : Nat} {Q : State → Prop} {b L : Nat} {xs : Nat → Int32} {ls : Array Slot} {D Dm : va_G} {ca cm : Nat → ClassId} {cO cOd : ClassId} {α0 α : cAl} {lo hm hi bo bd : Nat} {μ : Nat → Nat} {g : Gm} {σ : cS} {τ : mS} {f : Nat → Int64} {fd : Nat → UInt64} {i : Nat} (hst : l.stackTraces = false) (hL : L ≤ 2560) (X : lX p s m c b L xs D Dm ca cm cO cOd α0 lo hm hi bo bd) (J : lJ s D Dm ca cm cO cOd α0 lo hm hi bo bd μ σ τ α f fd H locs) (hR : Rel g σ τ) (h5 : i + 5 ≤ L) (hl : lv_has ls 9 [(0, .ref b), (1, .ref (α0 0 0)), (2, .ref (μ 0)), (3, .ref bo), (4, .ref bd), (5, .int (nI i))]) (hcl : cells + 12 ≤ room_1.cells) (hsl : slots + 700 ≤ room_1.slots)
    (kk : ∀ (g' : Gm) (σ' : cS) (τ' : mS) (α' : cAl) (f' : Nat → Int64) (fd' : Nat → UInt64) (H' : Heap) (locs' : List Loc) (ls' : Array Slot), Rel g' σ' τ' → lJ s D Dm ca cm cO cOd α0 lo hm hi bo bd μ σ' τ' α' f' fd' H' locs' → lv_has ls' 9 [(0, .ref b), (1, .ref (α0 0 0)), (2, .ref (μ 0)), (3, .ref bo), (4, .ref bd), (5, .int (nI i))] → W p l e room_1 s m #[Value.ref b] below meth c H' locs' (cells + 12) (slots + 700) Q (F0 m 3212 ls' [])) :
    W p l e room_1 s m #[Value.ref b] below meth c H locs cells slots Q (F0 m 2630 ls []) := by
  obtain ⟨hx, hb, -, -, -⟩ := id X.1
  obtain ⟨hbo, -⟩ := l_nbo X
  obtain ⟨h17, -⟩ := l_n17 X J
  obtain ⟨g1, r, σ1, v, τ2, hfc, hfm, hagr, hR1⟩ := meth_earn hR (xs (i + 1))
  obtain ⟨j, hj1, hth, hrr⟩ := hagr.use (by decide)
  refine lv_aload_n hx hb dLaw_law_2630 rfl (lv_at hl 1 rfl) ?_
  refine l_arg (i := i) (k := 1) X J.2.2.2.1 hL (by omega) (by decide) (lv_at hl 0 rfl) (lv_at hl 5 rfl) dLaw_law_2631 dLaw_law_2632 dLaw_law_2634 dLaw_law_2635 dLaw_law_2636 ?_
  refine lv_aload_n hx hb dLaw_law_2637 rfl (lv_at hl 3 rfl) ?_
  refine l_wr (As := [.int (xs (i + 1)), .ref bo]) (rest := []) X J (cv_earn l hst D ca (lA s.heap.size lo hi) bo cO α σ f hbo h17 (xs (i + 1)) (r, σ1) hfc j hj1) lw_earn ⟨rfl, rfl⟩ ⟨Nat.le_of_ble_eq_true rfl, Nat.le_of_ble_eq_true rfl⟩ rfl rfl (cats_le _ (Nat.le_of_ble_eq_true rfl)) hl.1 dLaw_law_2638 ⟨Nat.le_trans (Nat.add_le_add_left (Nat.le_of_ble_eq_true rfl) _) hcl, Nat.le_trans (Nat.add_le_add_left (Nat.le_of_ble_eq_true rfl) _) hsl⟩ (fun α1 H1 locs1 J1 => ?_)
  refine lv_istore (lv' := [(6, .int (nI (lK j r))), (0, .ref b), (1, .ref (α0 0 0)), (2, .ref (μ 0)), (3, .ref bo), (4, .ref bd), (5, .int (nI i))]) hx hb dLaw_law_2641 hl (by decide) rfl (fun ls hl => ?_)
  refine lv_aload_n hx hb dLaw_law_2643 rfl (lv_at hl 3 rfl) ?_
  refine l_arg (i := i) (k := 1) X J1.2.2.2.1 hL (by omega) (by decide) (lv_at hl 1 rfl) (lv_at hl 6 rfl) dLaw_law_2644 dLaw_law_2645 dLaw_law_2647 dLaw_law_2648 dLaw_law_2649 ?_
  refine l_modI (As := [.int (xs (i + 1))]) (rest := []) X J1 (cm_earn l Dm cm μ (lB lo hm) τ (xs (i + 1)) (v, τ2) hfm) mwl_earn ⟨rfl, rfl⟩ ⟨Nat.le_of_ble_eq_true rfl, Nat.le_of_ble_eq_true rfl⟩ rfl rfl (cats_le _ (Nat.le_of_ble_eq_true rfl)) hl.1 dLaw_law_2650 ⟨Nat.le_trans (Nat.add_le_add_left (Nat.le_of_ble_eq_true rfl) _) hcl, Nat.le_trans (Nat.add_le_add_left (Nat.le_of_ble_eq_true rfl) _) hsl⟩ (fun H2 locs2 J2 => ?_)
  refine lv_istore (lv' := [(7, .int v), (6, .int (nI (lK j r))), (0, .ref b), (1, .ref (α0 0 0)), (2, .ref (μ 0)), (3, .ref bo), (4, .ref bd), (5, .int (nI i))]) hx hb dLaw_law_2653 hl (by decide) rfl (fun ls hl => ?_)
  refine lv_aload_n hx hb dLaw_law_2655 rfl (lv_at hl 4 rfl) ?_
  refine l_modI (As := []) (rest := []) X J2 (cm_thrown l Dm cm μ (lB lo hm) τ2 (τ2.1 0, τ2) rfl) mwl_thrown ⟨rfl, rfl⟩ ⟨Nat.le_of_ble_eq_true rfl, Nat.le_of_ble_eq_true rfl⟩ rfl rfl (cats_le _ (Nat.le_of_ble_eq_true rfl)) hl.1 dLaw_law_2656 ⟨Nat.le_trans (Nat.add_le_add_left (Nat.le_of_ble_eq_true rfl) _) hcl, Nat.le_trans (Nat.add_le_add_left (Nat.le_of_ble_eq_true rfl) _) hsl⟩ (fun H3 locs3 J3 => ?_)
  refine lv_iload hx hb dLaw_law_2659 (lv_at hl 1 rfl) ?_
  refine lv_icmp_eq (tgt := 2666) hx hb dLaw_law_2661 (by decide) (fun _ => ?_) (fun q => absurd hth q)
  refine lv_iload hx hb dLaw_law_2666 (lv_at hl 1 rfl) ?_
  have fin : W p l e room_1 s m #[Value.ref b] below meth c H3 locs3 (cells + 12) (slots + 700) Q (F0 m 3212 ls []) := kk g1 σ1 τ2 α1 _ fd H3 locs3 ls hR1 J3 (lv_sub hl [2, 3, 4, 5, 6, 7] rfl)
  refine W.widen (k := cells + 12) (n := slots + 700) (Nat.add_le_add_left (Nat.le_of_ble_eq_true rfl) _) (Nat.add_le_add_left (Nat.le_of_ble_eq_true rfl) _) ?_
  refine lv_if_ne (tgt := 2683) hx hb dLaw_law_2668 (by decide) (fun q => ?_) (fun q => ?_)
  · refine lv_goto (tgt := 3212) hx hb dLaw_law_2683 (by decide) ?_
    exact fin
  · rcases hrr with ⟨k0, rfl⟩ | ⟨k0, k1⟩
    · refine lv_aload_n hx hb dLaw_law_2671 rfl (lv_at hl 5 rfl) ?_
      refine lv_iconst (v := (0 : Int32)) hx hb dLaw_law_2672 (by decide) ?_
      refine va_lald hx hb X.2.2.1.2.2.1 J3.2.2.1.1 0 0 rfl rfl vp01 dLaw_law_2673 ?_
      refine lv_iload hx hb dLaw_law_2674 (lv_at hl 0 rfl) ?_
      refine lv_i2l hx hb dLaw_law_2676 rfl ?_
      refine W.lcmp hx hb dLaw_law_2677 ?_
      refine lv_if_eq (tgt := 2683) hx hb dLaw_law_2678 (by decide) (fun _ => ?_) (fun q => absurd (lg0.mpr (rfl)) q)
      refine lv_goto (tgt := 3212) hx hb dLaw_law_2683 (by decide) ?_
      exact fin
    · exact absurd q (nz_k k0 k1)
theorem lw_sale : lCallS 337 yLaw_sale cLaw_sale 5 (lHh [4, 1] 10 (fun j => ([13, 17] : List Nat).getD j 0)) 4 := ⟨⟨wl_in (i := 1486) (by decide +kernel), wl_in (i := 1487) (by decide +kernel), wl_in (i := 0) (by decide +kernel), wl_in (i := 1488) (by decide +kernel)⟩, by decide, by decide, by decide +kernel⟩
theorem mwl_sale : cCallV RV 340 RX12 yX12_sale cX12_sale 3 (some .int) 2 := ⟨⟨wl_in (i := 2365) (by decide +kernel), wl_in (i := 2366) (by decide +kernel), wl_in (i := 2367) (by decide +kernel), wl_in (i := 16) (by decide +kernel), wl_in (i := 2368) (by decide +kernel)⟩, rfl, by decide, by decide, by decide +kernel⟩
set_option maxHeartbeats 4000000 in
set_option maxRecDepth 100000 in
theorem lc_sale {p : Program} {l : Launch} {e : Env} {s : State} {m : MethodId} {below : List Frame} {meth : Method} {c : Code} {H : Heap} {locs : List Loc} {cells slots : Nat} {Q : State → Prop} {b L : Nat} {xs : Nat → Int32} {ls : Array Slot} {D Dm : va_G} {ca cm : Nat → ClassId} {cO cOd : ClassId} {α0 α : cAl} {lo hm hi bo bd : Nat} {μ : Nat → Nat} {g : Gm} {σ : cS} {τ : mS} {f : Nat → Int64} {fd : Nat → UInt64} {i : Nat} (hst : l.stackTraces = false) (hL : L ≤ 2560) (X : lX p s m c b L xs D Dm ca cm cO cOd α0 lo hm hi bo bd) (J : lJ s D Dm ca cm cO cOd α0 lo hm hi bo bd μ σ τ α f fd H locs) (hR : Rel g σ τ) (h5 : i + 5 ≤ L) (hl : lv_has ls 9 [(0, .ref b), (1, .ref (α0 0 0)), (2, .ref (μ 0)), (3, .ref bo), (4, .ref bd), (5, .int (nI i))]) (hcl : cells + 12 ≤ room_1.cells) (hsl : slots + 700 ≤ room_1.slots)
    (kk : ∀ (g' : Gm) (σ' : cS) (τ' : mS) (α' : cAl) (f' : Nat → Int64) (fd' : Nat → UInt64) (H' : Heap) (locs' : List Loc) (ls' : Array Slot), Rel g' σ' τ' → lJ s D Dm ca cm cO cOd α0 lo hm hi bo bd μ σ' τ' α' f' fd' H' locs' → lv_has ls' 9 [(0, .ref b), (1, .ref (α0 0 0)), (2, .ref (μ 0)), (3, .ref bo), (4, .ref bd), (5, .int (nI i))] → W p l e room_1 s m #[Value.ref b] below meth c H' locs' (cells + 12) (slots + 700) Q (F0 m 3212 ls' [])) :
    W p l e room_1 s m #[Value.ref b] below meth c H locs cells slots Q (F0 m 2699 ls []) := by
  obtain ⟨hx, hb, -, -, -⟩ := id X.1
  obtain ⟨hbo, -⟩ := l_nbo X
  obtain ⟨h17, -⟩ := l_n17 X J
  obtain ⟨c2, hc2, e2⟩ := l_char (xs (i + 2))
  obtain ⟨g1, r, σ1, v, τ2, hfc, hfm, hagr, hR1⟩ := meth_sale hR (xs (i + 1)) hc2
  obtain ⟨j, hj1, hth, hrr⟩ := hagr.use (by decide)
  refine lv_aload_n hx hb dLaw_law_2699 rfl (lv_at hl 1 rfl) ?_
  refine l_arg (i := i) (k := 1) X J.2.2.2.1 hL (by omega) (by decide) (lv_at hl 0 rfl) (lv_at hl 5 rfl) dLaw_law_2700 dLaw_law_2701 dLaw_law_2703 dLaw_law_2704 dLaw_law_2705 ?_
  refine l_arg (i := i) (k := 2) X J.2.2.2.1 hL (by omega) (by decide) (lv_at hl 0 rfl) (lv_at hl 5 rfl) dLaw_law_2706 dLaw_law_2707 dLaw_law_2709 dLaw_law_2710 dLaw_law_2711 ?_
  refine lv_i2c hx hb dLaw_law_2712 e2 ?_
  refine lv_aload_n hx hb dLaw_law_2713 rfl (lv_at hl 3 rfl) ?_
  refine l_wr (As := [.int (xs (i + 1)), .int (nI c2), .ref bo]) (rest := []) X J (cv_sale l hst D ca (lA s.heap.size lo hi) bo cO α σ f hbo h17 (xs (i + 1)) (nI c2) (r, σ1) hfc j hj1) lw_sale ⟨rfl, rfl⟩ ⟨Nat.le_of_ble_eq_true rfl, Nat.le_of_ble_eq_true rfl⟩ rfl rfl (cats_le _ (Nat.le_of_ble_eq_true rfl)) hl.1 dLaw_law_2714 ⟨Nat.le_trans (Nat.add_le_add_left (Nat.le_of_ble_eq_true rfl) _) hcl, Nat.le_trans (Nat.add_le_add_left (Nat.le_of_ble_eq_true rfl) _) hsl⟩ (fun α1 H1 locs1 J1 => ?_)
  refine lv_istore (lv' := [(6, .int (nI (lK j r))), (0, .ref b), (1, .ref (α0 0 0)), (2, .ref (μ 0)), (3, .ref bo), (4, .ref bd), (5, .int (nI i))]) hx hb dLaw_law_2717 hl (by decide) rfl (fun ls hl => ?_)
  refine lv_aload_n hx hb dLaw_law_2719 rfl (lv_at hl 3 rfl) ?_
  refine l_arg (i := i) (k := 1) X J1.2.2.2.1 hL (by omega) (by decide) (lv_at hl 1 rfl) (lv_at hl 6 rfl) dLaw_law_2720 dLaw_law_2721 dLaw_law_2723 dLaw_law_2724 dLaw_law_2725 ?_
  refine l_arg (i := i) (k := 2) X J1.2.2.2.1 hL (by omega) (by decide) (lv_at hl 1 rfl) (lv_at hl 6 rfl) dLaw_law_2726 dLaw_law_2727 dLaw_law_2729 dLaw_law_2730 dLaw_law_2731 ?_
  refine lv_i2c hx hb dLaw_law_2732 e2 ?_
  refine l_modI (As := [.int (xs (i + 1)), .int (nI c2)]) (rest := []) X J1 (cm_sale l Dm cm μ (lB lo hm) τ (xs (i + 1)) (nI c2) (v, τ2) hfm) mwl_sale ⟨rfl, rfl⟩ ⟨Nat.le_of_ble_eq_true rfl, Nat.le_of_ble_eq_true rfl⟩ rfl rfl (cats_le _ (Nat.le_of_ble_eq_true rfl)) hl.1 dLaw_law_2733 ⟨Nat.le_trans (Nat.add_le_add_left (Nat.le_of_ble_eq_true rfl) _) hcl, Nat.le_trans (Nat.add_le_add_left (Nat.le_of_ble_eq_true rfl) _) hsl⟩ (fun H2 locs2 J2 => ?_)
  refine lv_istore (lv' := [(7, .int v), (6, .int (nI (lK j r))), (0, .ref b), (1, .ref (α0 0 0)), (2, .ref (μ 0)), (3, .ref bo), (4, .ref bd), (5, .int (nI i))]) hx hb dLaw_law_2736 hl (by decide) rfl (fun ls hl => ?_)
  refine lv_aload_n hx hb dLaw_law_2738 rfl (lv_at hl 4 rfl) ?_
  refine l_modI (As := []) (rest := []) X J2 (cm_thrown l Dm cm μ (lB lo hm) τ2 (τ2.1 0, τ2) rfl) mwl_thrown ⟨rfl, rfl⟩ ⟨Nat.le_of_ble_eq_true rfl, Nat.le_of_ble_eq_true rfl⟩ rfl rfl (cats_le _ (Nat.le_of_ble_eq_true rfl)) hl.1 dLaw_law_2739 ⟨Nat.le_trans (Nat.add_le_add_left (Nat.le_of_ble_eq_true rfl) _) hcl, Nat.le_trans (Nat.add_le_add_left (Nat.le_of_ble_eq_true rfl) _) hsl⟩ (fun H3 locs3 J3 => ?_)
  refine lv_iload hx hb dLaw_law_2742 (lv_at hl 1 rfl) ?_
  refine lv_icmp_eq (tgt := 2749) hx hb dLaw_law_2744 (by decide) (fun _ => ?_) (fun q => absurd hth q)
  refine lv_iload hx hb dLaw_law_2749 (lv_at hl 1 rfl) ?_
  have fin : W p l e room_1 s m #[Value.ref b] below meth c H3 locs3 (cells + 12) (slots + 700) Q (F0 m 3212 ls []) := kk g1 σ1 τ2 α1 _ fd H3 locs3 ls hR1 J3 (lv_sub hl [2, 3, 4, 5, 6, 7] rfl)
  refine W.widen (k := cells + 12) (n := slots + 700) (Nat.add_le_add_left (Nat.le_of_ble_eq_true rfl) _) (Nat.add_le_add_left (Nat.le_of_ble_eq_true rfl) _) ?_
  refine lv_if_ne (tgt := 2766) hx hb dLaw_law_2751 (by decide) (fun q => ?_) (fun q => ?_)
  · refine lv_goto (tgt := 3212) hx hb dLaw_law_2766 (by decide) ?_
    exact fin
  · rcases hrr with ⟨k0, rfl⟩ | ⟨k0, k1⟩
    · refine lv_aload_n hx hb dLaw_law_2754 rfl (lv_at hl 5 rfl) ?_
      refine lv_iconst (v := (0 : Int32)) hx hb dLaw_law_2755 (by decide) ?_
      refine va_lald hx hb X.2.2.1.2.2.1 J3.2.2.1.1 0 0 rfl rfl vp01 dLaw_law_2756 ?_
      refine lv_iload hx hb dLaw_law_2757 (lv_at hl 0 rfl) ?_
      refine lv_i2l hx hb dLaw_law_2759 rfl ?_
      refine W.lcmp hx hb dLaw_law_2760 ?_
      refine lv_if_eq (tgt := 2766) hx hb dLaw_law_2761 (by decide) (fun _ => ?_) (fun q => absurd (lg0.mpr (rfl)) q)
      refine lv_goto (tgt := 3212) hx hb dLaw_law_2766 (by decide) ?_
      exact fin
    · exact absurd q (nz_k k0 k1)
theorem lw_merge : lCallS 341 yLaw_merge cLaw_merge 4 (lHh [4, 2, 3] 9 (fun j => ([12, 15, 18] : List Nat).getD j 0)) 3 := ⟨⟨wl_in (i := 1494) (by decide +kernel), wl_in (i := 1495) (by decide +kernel), wl_in (i := 0) (by decide +kernel), wl_in (i := 1496) (by decide +kernel)⟩, by decide, by decide, by decide +kernel⟩
theorem mwl_merge : cCallV RV 343 RX12 yX12_merge cX12_merge 5 (some .int) 1 := ⟨⟨wl_in (i := 2369) (by decide +kernel), wl_in (i := 2370) (by decide +kernel), wl_in (i := 2371) (by decide +kernel), wl_in (i := 16) (by decide +kernel), wl_in (i := 2372) (by decide +kernel)⟩, rfl, by decide, by decide, by decide +kernel⟩
set_option maxHeartbeats 4000000 in
set_option maxRecDepth 100000 in
theorem lc_merge {p : Program} {l : Launch} {e : Env} {s : State} {m : MethodId} {below : List Frame} {meth : Method} {c : Code} {H : Heap} {locs : List Loc} {cells slots : Nat} {Q : State → Prop} {b L : Nat} {xs : Nat → Int32} {ls : Array Slot} {D Dm : va_G} {ca cm : Nat → ClassId} {cO cOd : ClassId} {α0 α : cAl} {lo hm hi bo bd : Nat} {μ : Nat → Nat} {g : Gm} {σ : cS} {τ : mS} {f : Nat → Int64} {fd : Nat → UInt64} {i : Nat} (hst : l.stackTraces = false) (hL : L ≤ 2560) (X : lX p s m c b L xs D Dm ca cm cO cOd α0 lo hm hi bo bd) (J : lJ s D Dm ca cm cO cOd α0 lo hm hi bo bd μ σ τ α f fd H locs) (hR : Rel g σ τ) (h5 : i + 5 ≤ L) (hl : lv_has ls 9 [(0, .ref b), (1, .ref (α0 0 0)), (2, .ref (μ 0)), (3, .ref bo), (4, .ref bd), (5, .int (nI i))]) (hcl : cells + 12 ≤ room_1.cells) (hsl : slots + 700 ≤ room_1.slots)
    (kk : ∀ (g' : Gm) (σ' : cS) (τ' : mS) (α' : cAl) (f' : Nat → Int64) (fd' : Nat → UInt64) (H' : Heap) (locs' : List Loc) (ls' : Array Slot), Rel g' σ' τ' → lJ s D Dm ca cm cO cOd α0 lo hm hi bo bd μ σ' τ' α' f' fd' H' locs' → lv_has ls' 9 [(0, .ref b), (1, .ref (α0 0 0)), (2, .ref (μ 0)), (3, .ref bo), (4, .ref bd), (5, .int (nI i))] → W p l e room_1 s m #[Value.ref b] below meth c H' locs' (cells + 12) (slots + 700) Q (F0 m 3212 ls' [])) :
    W p l e room_1 s m #[Value.ref b] below meth c H locs cells slots Q (F0 m 2769 ls []) := by
  obtain ⟨hx, hb, -, -, -⟩ := id X.1
  obtain ⟨hbo, -⟩ := l_nbo X
  obtain ⟨h17, -⟩ := l_n17 X J
  obtain ⟨g1, r, σ1, v, τ2, hfc, hfm, hagr, hR1⟩ := meth_merge hR (xs (i + 1))
  obtain ⟨j, hj1, hth, hrr⟩ := hagr.use (by decide)
  refine lv_aload_n hx hb dLaw_law_2769 rfl (lv_at hl 1 rfl) ?_
  refine l_arg (i := i) (k := 1) X J.2.2.2.1 hL (by omega) (by decide) (lv_at hl 0 rfl) (lv_at hl 5 rfl) dLaw_law_2770 dLaw_law_2771 dLaw_law_2773 dLaw_law_2774 dLaw_law_2775 ?_
  refine lv_aload_n hx hb dLaw_law_2776 rfl (lv_at hl 3 rfl) ?_
  refine l_wr (As := [.int (xs (i + 1)), .ref bo]) (rest := []) X J (cv_merge l hst D ca (lA s.heap.size lo hi) bo cO α σ f hbo h17 (xs (i + 1)) (r, σ1) hfc j hj1) lw_merge ⟨rfl, rfl⟩ ⟨Nat.le_of_ble_eq_true rfl, Nat.le_of_ble_eq_true rfl⟩ rfl rfl (cats_le _ (Nat.le_of_ble_eq_true rfl)) hl.1 dLaw_law_2777 ⟨Nat.le_trans (Nat.add_le_add_left (Nat.le_of_ble_eq_true rfl) _) hcl, Nat.le_trans (Nat.add_le_add_left (Nat.le_of_ble_eq_true rfl) _) hsl⟩ (fun α1 H1 locs1 J1 => ?_)
  refine lv_istore (lv' := [(6, .int (nI (lK j r))), (0, .ref b), (1, .ref (α0 0 0)), (2, .ref (μ 0)), (3, .ref bo), (4, .ref bd), (5, .int (nI i))]) hx hb dLaw_law_2780 hl (by decide) rfl (fun ls hl => ?_)
  refine lv_aload_n hx hb dLaw_law_2782 rfl (lv_at hl 3 rfl) ?_
  refine l_arg (i := i) (k := 1) X J1.2.2.2.1 hL (by omega) (by decide) (lv_at hl 1 rfl) (lv_at hl 6 rfl) dLaw_law_2783 dLaw_law_2784 dLaw_law_2786 dLaw_law_2787 dLaw_law_2788 ?_
  refine l_modI (As := [.int (xs (i + 1))]) (rest := []) X J1 (cm_merge l Dm cm μ (lB lo hm) τ (xs (i + 1)) (v, τ2) hfm) mwl_merge ⟨rfl, rfl⟩ ⟨Nat.le_of_ble_eq_true rfl, Nat.le_of_ble_eq_true rfl⟩ rfl rfl (cats_le _ (Nat.le_of_ble_eq_true rfl)) hl.1 dLaw_law_2789 ⟨Nat.le_trans (Nat.add_le_add_left (Nat.le_of_ble_eq_true rfl) _) hcl, Nat.le_trans (Nat.add_le_add_left (Nat.le_of_ble_eq_true rfl) _) hsl⟩ (fun H2 locs2 J2 => ?_)
  refine lv_istore (lv' := [(7, .int v), (6, .int (nI (lK j r))), (0, .ref b), (1, .ref (α0 0 0)), (2, .ref (μ 0)), (3, .ref bo), (4, .ref bd), (5, .int (nI i))]) hx hb dLaw_law_2792 hl (by decide) rfl (fun ls hl => ?_)
  refine lv_aload_n hx hb dLaw_law_2794 rfl (lv_at hl 4 rfl) ?_
  refine l_modI (As := []) (rest := []) X J2 (cm_thrown l Dm cm μ (lB lo hm) τ2 (τ2.1 0, τ2) rfl) mwl_thrown ⟨rfl, rfl⟩ ⟨Nat.le_of_ble_eq_true rfl, Nat.le_of_ble_eq_true rfl⟩ rfl rfl (cats_le _ (Nat.le_of_ble_eq_true rfl)) hl.1 dLaw_law_2795 ⟨Nat.le_trans (Nat.add_le_add_left (Nat.le_of_ble_eq_true rfl) _) hcl, Nat.le_trans (Nat.add_le_add_left (Nat.le_of_ble_eq_true rfl) _) hsl⟩ (fun H3 locs3 J3 => ?_)
  refine lv_iload hx hb dLaw_law_2798 (lv_at hl 1 rfl) ?_
  refine lv_icmp_eq (tgt := 2805) hx hb dLaw_law_2800 (by decide) (fun _ => ?_) (fun q => absurd hth q)
  refine lv_iload hx hb dLaw_law_2805 (lv_at hl 1 rfl) ?_
  have fin : W p l e room_1 s m #[Value.ref b] below meth c H3 locs3 (cells + 12) (slots + 700) Q (F0 m 3212 ls []) := kk g1 σ1 τ2 α1 _ fd H3 locs3 ls hR1 J3 (lv_sub hl [2, 3, 4, 5, 6, 7] rfl)
  refine W.widen (k := cells + 12) (n := slots + 700) (Nat.add_le_add_left (Nat.le_of_ble_eq_true rfl) _) (Nat.add_le_add_left (Nat.le_of_ble_eq_true rfl) _) ?_
  refine lv_if_ne (tgt := 2822) hx hb dLaw_law_2807 (by decide) (fun q => ?_) (fun q => ?_)
  · refine lv_goto (tgt := 3212) hx hb dLaw_law_2822 (by decide) ?_
    exact fin
  · rcases hrr with ⟨k0, rfl⟩ | ⟨k0, k1⟩
    · refine lv_aload_n hx hb dLaw_law_2810 rfl (lv_at hl 5 rfl) ?_
      refine lv_iconst (v := (0 : Int32)) hx hb dLaw_law_2811 (by decide) ?_
      refine va_lald hx hb X.2.2.1.2.2.1 J3.2.2.1.1 0 0 rfl rfl vp01 dLaw_law_2812 ?_
      refine lv_iload hx hb dLaw_law_2813 (lv_at hl 0 rfl) ?_
      refine lv_i2l hx hb dLaw_law_2815 rfl ?_
      refine W.lcmp hx hb dLaw_law_2816 ?_
      refine lv_if_eq (tgt := 2822) hx hb dLaw_law_2817 (by decide) (fun _ => ?_) (fun q => absurd (lg0.mpr (rfl)) q)
      refine lv_goto (tgt := 3212) hx hb dLaw_law_2822 (by decide) ?_
      exact fin
    · exact absurd q (nz_k k0 k1)
theorem lw_score : lCallS 344 yLaw_score cLaw_score 3 (lHh [2] 8 (fun j => ([11] : List Nat).getD j 0)) 2 := ⟨⟨wl_in (i := 1504) (by decide +kernel), wl_in (i := 1505) (by decide +kernel), wl_in (i := 0) (by decide +kernel), wl_in (i := 1506) (by decide +kernel)⟩, by decide, by decide, by decide +kernel⟩
theorem mwl_score : cCallV RV 346 RX12 yX12_score cX12_score 3 (some .int) 0 := ⟨⟨wl_in (i := 2373) (by decide +kernel), wl_in (i := 2374) (by decide +kernel), wl_in (i := 2375) (by decide +kernel), wl_in (i := 16) (by decide +kernel), wl_in (i := 2376) (by decide +kernel)⟩, rfl, by decide, by decide, by decide +kernel⟩
set_option maxHeartbeats 4000000 in
set_option maxRecDepth 100000 in
theorem lc_score {p : Program} {l : Launch} {e : Env} {s : State} {m : MethodId} {below : List Frame} {meth : Method} {c : Code} {H : Heap} {locs : List Loc} {cells slots : Nat} {Q : State → Prop} {b L : Nat} {xs : Nat → Int32} {ls : Array Slot} {D Dm : va_G} {ca cm : Nat → ClassId} {cO cOd : ClassId} {α0 α : cAl} {lo hm hi bo bd : Nat} {μ : Nat → Nat} {g : Gm} {σ : cS} {τ : mS} {f : Nat → Int64} {fd : Nat → UInt64} {i : Nat} (hst : l.stackTraces = false) (hL : L ≤ 2560) (X : lX p s m c b L xs D Dm ca cm cO cOd α0 lo hm hi bo bd) (J : lJ s D Dm ca cm cO cOd α0 lo hm hi bo bd μ σ τ α f fd H locs) (hR : Rel g σ τ) (h5 : i + 5 ≤ L) (hl : lv_has ls 9 [(0, .ref b), (1, .ref (α0 0 0)), (2, .ref (μ 0)), (3, .ref bo), (4, .ref bd), (5, .int (nI i))]) (hcl : cells + 12 ≤ room_1.cells) (hsl : slots + 700 ≤ room_1.slots)
    (kk : ∀ (g' : Gm) (σ' : cS) (τ' : mS) (α' : cAl) (f' : Nat → Int64) (fd' : Nat → UInt64) (H' : Heap) (locs' : List Loc) (ls' : Array Slot), Rel g' σ' τ' → lJ s D Dm ca cm cO cOd α0 lo hm hi bo bd μ σ' τ' α' f' fd' H' locs' → lv_has ls' 9 [(0, .ref b), (1, .ref (α0 0 0)), (2, .ref (μ 0)), (3, .ref bo), (4, .ref bd), (5, .int (nI i))] → W p l e room_1 s m #[Value.ref b] below meth c H' locs' (cells + 12) (slots + 700) Q (F0 m 3212 ls' [])) :
    W p l e room_1 s m #[Value.ref b] below meth c H locs cells slots Q (F0 m 2825 ls []) := by
  obtain ⟨hx, hb, -, -, -⟩ := id X.1
  obtain ⟨hbo, -⟩ := l_nbo X
  obtain ⟨h17, -⟩ := l_n17 X J
  obtain ⟨g1, r, σ1, v, τ2, hfc, hfm, hagr, hR1⟩ := meth_score hR 
  obtain ⟨j, hj1, hth, hrr⟩ := hagr.use (by decide)
  refine lv_aload_n hx hb dLaw_law_2825 rfl (lv_at hl 1 rfl) ?_
  refine lv_aload_n hx hb dLaw_law_2826 rfl (lv_at hl 3 rfl) ?_
  refine l_wr (As := [.ref bo]) (rest := []) X J (cv_score l hst D ca (lA s.heap.size lo hi) bo cO α σ f hbo h17  (r, σ1) hfc j hj1) lw_score ⟨rfl, rfl⟩ ⟨Nat.le_of_ble_eq_true rfl, Nat.le_of_ble_eq_true rfl⟩ rfl rfl (cats_le _ (Nat.le_of_ble_eq_true rfl)) hl.1 dLaw_law_2827 ⟨Nat.le_trans (Nat.add_le_add_left (Nat.le_of_ble_eq_true rfl) _) hcl, Nat.le_trans (Nat.add_le_add_left (Nat.le_of_ble_eq_true rfl) _) hsl⟩ (fun α1 H1 locs1 J1 => ?_)
  refine lv_istore (lv' := [(6, .int (nI (lK j r))), (0, .ref b), (1, .ref (α0 0 0)), (2, .ref (μ 0)), (3, .ref bo), (4, .ref bd), (5, .int (nI i))]) hx hb dLaw_law_2830 hl (by decide) rfl (fun ls hl => ?_)
  refine lv_aload_n hx hb dLaw_law_2832 rfl (lv_at hl 3 rfl) ?_
  refine l_modI (As := []) (rest := []) X J1 (cm_score l Dm cm μ (lB lo hm) τ  (v, τ2) hfm) mwl_score ⟨rfl, rfl⟩ ⟨Nat.le_of_ble_eq_true rfl, Nat.le_of_ble_eq_true rfl⟩ rfl rfl (cats_le _ (Nat.le_of_ble_eq_true rfl)) hl.1 dLaw_law_2833 ⟨Nat.le_trans (Nat.add_le_add_left (Nat.le_of_ble_eq_true rfl) _) hcl, Nat.le_trans (Nat.add_le_add_left (Nat.le_of_ble_eq_true rfl) _) hsl⟩ (fun H2 locs2 J2 => ?_)
  refine lv_istore (lv' := [(7, .int v), (6, .int (nI (lK j r))), (0, .ref b), (1, .ref (α0 0 0)), (2, .ref (μ 0)), (3, .ref bo), (4, .ref bd), (5, .int (nI i))]) hx hb dLaw_law_2836 hl (by decide) rfl (fun ls hl => ?_)
  refine lv_aload_n hx hb dLaw_law_2838 rfl (lv_at hl 4 rfl) ?_
  refine l_modI (As := []) (rest := []) X J2 (cm_thrown l Dm cm μ (lB lo hm) τ2 (τ2.1 0, τ2) rfl) mwl_thrown ⟨rfl, rfl⟩ ⟨Nat.le_of_ble_eq_true rfl, Nat.le_of_ble_eq_true rfl⟩ rfl rfl (cats_le _ (Nat.le_of_ble_eq_true rfl)) hl.1 dLaw_law_2839 ⟨Nat.le_trans (Nat.add_le_add_left (Nat.le_of_ble_eq_true rfl) _) hcl, Nat.le_trans (Nat.add_le_add_left (Nat.le_of_ble_eq_true rfl) _) hsl⟩ (fun H3 locs3 J3 => ?_)
  refine lv_iload hx hb dLaw_law_2842 (lv_at hl 1 rfl) ?_
  refine lv_icmp_eq (tgt := 2849) hx hb dLaw_law_2844 (by decide) (fun _ => ?_) (fun q => absurd hth q)
  refine lv_iload hx hb dLaw_law_2849 (lv_at hl 1 rfl) ?_
  have fin : W p l e room_1 s m #[Value.ref b] below meth c H3 locs3 (cells + 12) (slots + 700) Q (F0 m 3212 ls []) := kk g1 σ1 τ2 α1 _ fd H3 locs3 ls hR1 J3 (lv_sub hl [2, 3, 4, 5, 6, 7] rfl)
  refine W.widen (k := cells + 12) (n := slots + 700) (Nat.add_le_add_left (Nat.le_of_ble_eq_true rfl) _) (Nat.add_le_add_left (Nat.le_of_ble_eq_true rfl) _) ?_
  refine lv_if_ne (tgt := 2866) hx hb dLaw_law_2851 (by decide) (fun q => ?_) (fun q => ?_)
  · refine lv_goto (tgt := 3212) hx hb dLaw_law_2866 (by decide) ?_
    exact fin
  · rcases hrr with ⟨k0, rfl⟩ | ⟨k0, k1⟩
    · refine lv_aload_n hx hb dLaw_law_2854 rfl (lv_at hl 5 rfl) ?_
      refine lv_iconst (v := (0 : Int32)) hx hb dLaw_law_2855 (by decide) ?_
      refine va_lald hx hb X.2.2.1.2.2.1 J3.2.2.1.1 0 0 rfl rfl vp01 dLaw_law_2856 ?_
      refine lv_iload hx hb dLaw_law_2857 (lv_at hl 0 rfl) ?_
      refine lv_i2l hx hb dLaw_law_2859 rfl ?_
      refine W.lcmp hx hb dLaw_law_2860 ?_
      refine lv_if_eq (tgt := 2866) hx hb dLaw_law_2861 (by decide) (fun _ => ?_) (fun q => absurd (lg0.mpr (rfl)) q)
      refine lv_goto (tgt := 3212) hx hb dLaw_law_2866 (by decide) ?_
      exact fin
    · exact absurd q (nz_k k0 k1)
theorem lw_steps : lCallS 347 yLaw_steps cLaw_steps 4 (lHh [4, 2, 5] 9 (fun j => ([12, 15, 18] : List Nat).getD j 0)) 3 := ⟨⟨wl_in (i := 1515) (by decide +kernel), wl_in (i := 1516) (by decide +kernel), wl_in (i := 0) (by decide +kernel), wl_in (i := 1517) (by decide +kernel)⟩, by decide, by decide, by decide +kernel⟩
theorem mwl_steps : cCallV RV 349 RX12 yX12_steps cX12_steps 6 (some .int) 1 := ⟨⟨wl_in (i := 2377) (by decide +kernel), wl_in (i := 2378) (by decide +kernel), wl_in (i := 2379) (by decide +kernel), wl_in (i := 16) (by decide +kernel), wl_in (i := 2380) (by decide +kernel)⟩, rfl, by decide, by decide, by decide +kernel⟩
set_option maxHeartbeats 4000000 in
set_option maxRecDepth 100000 in
theorem lc_steps {p : Program} {l : Launch} {e : Env} {s : State} {m : MethodId} {below : List Frame} {meth : Method} {c : Code} {H : Heap} {locs : List Loc} {cells slots : Nat} {Q : State → Prop} {b L : Nat} {xs : Nat → Int32} {ls : Array Slot} {D Dm : va_G} {ca cm : Nat → ClassId} {cO cOd : ClassId} {α0 α : cAl} {lo hm hi bo bd : Nat} {μ : Nat → Nat} {g : Gm} {σ : cS} {τ : mS} {f : Nat → Int64} {fd : Nat → UInt64} {i : Nat} (hst : l.stackTraces = false) (hL : L ≤ 2560) (X : lX p s m c b L xs D Dm ca cm cO cOd α0 lo hm hi bo bd) (J : lJ s D Dm ca cm cO cOd α0 lo hm hi bo bd μ σ τ α f fd H locs) (hR : Rel g σ τ) (h5 : i + 5 ≤ L) (hl : lv_has ls 9 [(0, .ref b), (1, .ref (α0 0 0)), (2, .ref (μ 0)), (3, .ref bo), (4, .ref bd), (5, .int (nI i))]) (hcl : cells + 12 ≤ room_1.cells) (hsl : slots + 700 ≤ room_1.slots)
    (kk : ∀ (g' : Gm) (σ' : cS) (τ' : mS) (α' : cAl) (f' : Nat → Int64) (fd' : Nat → UInt64) (H' : Heap) (locs' : List Loc) (ls' : Array Slot), Rel g' σ' τ' → lJ s D Dm ca cm cO cOd α0 lo hm hi bo bd μ σ' τ' α' f' fd' H' locs' → lv_has ls' 9 [(0, .ref b), (1, .ref (α0 0 0)), (2, .ref (μ 0)), (3, .ref bo), (4, .ref bd), (5, .int (nI i))] → W p l e room_1 s m #[Value.ref b] below meth c H' locs' (cells + 12) (slots + 700) Q (F0 m 3212 ls' [])) :
    W p l e room_1 s m #[Value.ref b] below meth c H locs cells slots Q (F0 m 2869 ls []) := by
  obtain ⟨hx, hb, -, -, -⟩ := id X.1
  obtain ⟨hbo, -⟩ := l_nbo X
  obtain ⟨h17, -⟩ := l_n17 X J
  obtain ⟨g1, r, σ1, v, τ2, hfc, hfm, hagr, hR1⟩ := meth_steps hR (xs (i + 1))
  obtain ⟨j, hj1, hth, hrr⟩ := hagr.use (by decide)
  refine lv_aload_n hx hb dLaw_law_2869 rfl (lv_at hl 1 rfl) ?_
  refine l_arg (i := i) (k := 1) X J.2.2.2.1 hL (by omega) (by decide) (lv_at hl 0 rfl) (lv_at hl 5 rfl) dLaw_law_2870 dLaw_law_2871 dLaw_law_2873 dLaw_law_2874 dLaw_law_2875 ?_
  refine lv_aload_n hx hb dLaw_law_2876 rfl (lv_at hl 3 rfl) ?_
  refine l_wr (As := [.int (xs (i + 1)), .ref bo]) (rest := []) X J (cv_steps l hst D ca (lA s.heap.size lo hi) bo cO α σ f hbo h17 (xs (i + 1)) (r, σ1) hfc j hj1) lw_steps ⟨rfl, rfl⟩ ⟨Nat.le_of_ble_eq_true rfl, Nat.le_of_ble_eq_true rfl⟩ rfl rfl (cats_le _ (Nat.le_of_ble_eq_true rfl)) hl.1 dLaw_law_2877 ⟨Nat.le_trans (Nat.add_le_add_left (Nat.le_of_ble_eq_true rfl) _) hcl, Nat.le_trans (Nat.add_le_add_left (Nat.le_of_ble_eq_true rfl) _) hsl⟩ (fun α1 H1 locs1 J1 => ?_)
  refine lv_istore (lv' := [(6, .int (nI (lK j r))), (0, .ref b), (1, .ref (α0 0 0)), (2, .ref (μ 0)), (3, .ref bo), (4, .ref bd), (5, .int (nI i))]) hx hb dLaw_law_2880 hl (by decide) rfl (fun ls hl => ?_)
  refine lv_aload_n hx hb dLaw_law_2882 rfl (lv_at hl 3 rfl) ?_
  refine l_arg (i := i) (k := 1) X J1.2.2.2.1 hL (by omega) (by decide) (lv_at hl 1 rfl) (lv_at hl 6 rfl) dLaw_law_2883 dLaw_law_2884 dLaw_law_2886 dLaw_law_2887 dLaw_law_2888 ?_
  refine l_modI (As := [.int (xs (i + 1))]) (rest := []) X J1 (cm_steps l Dm cm μ (lB lo hm) τ (xs (i + 1)) (v, τ2) hfm) mwl_steps ⟨rfl, rfl⟩ ⟨Nat.le_of_ble_eq_true rfl, Nat.le_of_ble_eq_true rfl⟩ rfl rfl (cats_le _ (Nat.le_of_ble_eq_true rfl)) hl.1 dLaw_law_2889 ⟨Nat.le_trans (Nat.add_le_add_left (Nat.le_of_ble_eq_true rfl) _) hcl, Nat.le_trans (Nat.add_le_add_left (Nat.le_of_ble_eq_true rfl) _) hsl⟩ (fun H2 locs2 J2 => ?_)
  refine lv_istore (lv' := [(7, .int v), (6, .int (nI (lK j r))), (0, .ref b), (1, .ref (α0 0 0)), (2, .ref (μ 0)), (3, .ref bo), (4, .ref bd), (5, .int (nI i))]) hx hb dLaw_law_2892 hl (by decide) rfl (fun ls hl => ?_)
  refine lv_aload_n hx hb dLaw_law_2894 rfl (lv_at hl 4 rfl) ?_
  refine l_modI (As := []) (rest := []) X J2 (cm_thrown l Dm cm μ (lB lo hm) τ2 (τ2.1 0, τ2) rfl) mwl_thrown ⟨rfl, rfl⟩ ⟨Nat.le_of_ble_eq_true rfl, Nat.le_of_ble_eq_true rfl⟩ rfl rfl (cats_le _ (Nat.le_of_ble_eq_true rfl)) hl.1 dLaw_law_2895 ⟨Nat.le_trans (Nat.add_le_add_left (Nat.le_of_ble_eq_true rfl) _) hcl, Nat.le_trans (Nat.add_le_add_left (Nat.le_of_ble_eq_true rfl) _) hsl⟩ (fun H3 locs3 J3 => ?_)
  refine lv_iload hx hb dLaw_law_2898 (lv_at hl 1 rfl) ?_
  refine lv_icmp_eq (tgt := 2905) hx hb dLaw_law_2900 (by decide) (fun _ => ?_) (fun q => absurd hth q)
  refine lv_iload hx hb dLaw_law_2905 (lv_at hl 1 rfl) ?_
  have fin : W p l e room_1 s m #[Value.ref b] below meth c H3 locs3 (cells + 12) (slots + 700) Q (F0 m 3212 ls []) := kk g1 σ1 τ2 α1 _ fd H3 locs3 ls hR1 J3 (lv_sub hl [2, 3, 4, 5, 6, 7] rfl)
  refine W.widen (k := cells + 12) (n := slots + 700) (Nat.add_le_add_left (Nat.le_of_ble_eq_true rfl) _) (Nat.add_le_add_left (Nat.le_of_ble_eq_true rfl) _) ?_
  refine lv_if_ne (tgt := 2922) hx hb dLaw_law_2907 (by decide) (fun q => ?_) (fun q => ?_)
  · refine lv_goto (tgt := 3212) hx hb dLaw_law_2922 (by decide) ?_
    exact fin
  · rcases hrr with ⟨k0, rfl⟩ | ⟨k0, k1⟩
    · refine lv_aload_n hx hb dLaw_law_2910 rfl (lv_at hl 5 rfl) ?_
      refine lv_iconst (v := (0 : Int32)) hx hb dLaw_law_2911 (by decide) ?_
      refine va_lald hx hb X.2.2.1.2.2.1 J3.2.2.1.1 0 0 rfl rfl vp01 dLaw_law_2912 ?_
      refine lv_iload hx hb dLaw_law_2913 (lv_at hl 0 rfl) ?_
      refine lv_i2l hx hb dLaw_law_2915 rfl ?_
      refine W.lcmp hx hb dLaw_law_2916 ?_
      refine lv_if_eq (tgt := 2922) hx hb dLaw_law_2917 (by decide) (fun _ => ?_) (fun q => absurd (lg0.mpr (rfl)) q)
      refine lv_goto (tgt := 3212) hx hb dLaw_law_2922 (by decide) ?_
      exact fin
    · exact absurd q (nz_k k0 k1)
theorem lw_line : lCallS 350 yLaw_line cLaw_line 3 (lHh [2] 8 (fun j => ([11] : List Nat).getD j 0)) 2 := ⟨⟨wl_in (i := 1532) (by decide +kernel), wl_in (i := 1533) (by decide +kernel), wl_in (i := 0) (by decide +kernel), wl_in (i := 1534) (by decide +kernel)⟩, by decide, by decide, by decide +kernel⟩
theorem mwl_line : cCallV RV 352 RX12 yX12_line cX12_line 1 (some .int) 0 := ⟨⟨wl_in (i := 2381) (by decide +kernel), wl_in (i := 2382) (by decide +kernel), wl_in (i := 2383) (by decide +kernel), wl_in (i := 16) (by decide +kernel), wl_in (i := 2384) (by decide +kernel)⟩, rfl, by decide, by decide, by decide +kernel⟩
set_option maxHeartbeats 4000000 in
set_option maxRecDepth 100000 in
theorem lc_line {p : Program} {l : Launch} {e : Env} {s : State} {m : MethodId} {below : List Frame} {meth : Method} {c : Code} {H : Heap} {locs : List Loc} {cells slots : Nat} {Q : State → Prop} {b L : Nat} {xs : Nat → Int32} {ls : Array Slot} {D Dm : va_G} {ca cm : Nat → ClassId} {cO cOd : ClassId} {α0 α : cAl} {lo hm hi bo bd : Nat} {μ : Nat → Nat} {g : Gm} {σ : cS} {τ : mS} {f : Nat → Int64} {fd : Nat → UInt64} {i : Nat} (hst : l.stackTraces = false) (hL : L ≤ 2560) (X : lX p s m c b L xs D Dm ca cm cO cOd α0 lo hm hi bo bd) (J : lJ s D Dm ca cm cO cOd α0 lo hm hi bo bd μ σ τ α f fd H locs) (hR : Rel g σ τ) (h5 : i + 5 ≤ L) (hl : lv_has ls 9 [(0, .ref b), (1, .ref (α0 0 0)), (2, .ref (μ 0)), (3, .ref bo), (4, .ref bd), (5, .int (nI i))]) (hcl : cells + 12 ≤ room_1.cells) (hsl : slots + 700 ≤ room_1.slots)
    (kk : ∀ (g' : Gm) (σ' : cS) (τ' : mS) (α' : cAl) (f' : Nat → Int64) (fd' : Nat → UInt64) (H' : Heap) (locs' : List Loc) (ls' : Array Slot), Rel g' σ' τ' → lJ s D Dm ca cm cO cOd α0 lo hm hi bo bd μ σ' τ' α' f' fd' H' locs' → lv_has ls' 9 [(0, .ref b), (1, .ref (α0 0 0)), (2, .ref (μ 0)), (3, .ref bo), (4, .ref bd), (5, .int (nI i))] → W p l e room_1 s m #[Value.ref b] below meth c H' locs' (cells + 12) (slots + 700) Q (F0 m 3212 ls' [])) :
    W p l e room_1 s m #[Value.ref b] below meth c H locs cells slots Q (F0 m 2925 ls []) := by
  obtain ⟨hx, hb, -, -, -⟩ := id X.1
  obtain ⟨hbo, -⟩ := l_nbo X
  obtain ⟨h17, -⟩ := l_n17 X J
  obtain ⟨g1, r, σ1, v, τ2, hfc, hfm, hagr, hR1⟩ := meth_line hR 
  obtain ⟨j, hj1, hth, hrr⟩ := hagr.use (by decide)
  refine lv_aload_n hx hb dLaw_law_2925 rfl (lv_at hl 1 rfl) ?_
  refine lv_aload_n hx hb dLaw_law_2926 rfl (lv_at hl 3 rfl) ?_
  refine l_wr (As := [.ref bo]) (rest := []) X J (cv_line l hst D ca (lA s.heap.size lo hi) bo cO α σ f hbo h17  (r, σ1) hfc j hj1) lw_line ⟨rfl, rfl⟩ ⟨Nat.le_of_ble_eq_true rfl, Nat.le_of_ble_eq_true rfl⟩ rfl rfl (cats_le _ (Nat.le_of_ble_eq_true rfl)) hl.1 dLaw_law_2927 ⟨Nat.le_trans (Nat.add_le_add_left (Nat.le_of_ble_eq_true rfl) _) hcl, Nat.le_trans (Nat.add_le_add_left (Nat.le_of_ble_eq_true rfl) _) hsl⟩ (fun α1 H1 locs1 J1 => ?_)
  refine lv_istore (lv' := [(6, .int (nI (lK j r))), (0, .ref b), (1, .ref (α0 0 0)), (2, .ref (μ 0)), (3, .ref bo), (4, .ref bd), (5, .int (nI i))]) hx hb dLaw_law_2930 hl (by decide) rfl (fun ls hl => ?_)
  refine lv_aload_n hx hb dLaw_law_2932 rfl (lv_at hl 3 rfl) ?_
  refine l_modI (As := []) (rest := []) X J1 (cm_line l Dm cm μ (lB lo hm) τ  (v, τ2) hfm) mwl_line ⟨rfl, rfl⟩ ⟨Nat.le_of_ble_eq_true rfl, Nat.le_of_ble_eq_true rfl⟩ rfl rfl (cats_le _ (Nat.le_of_ble_eq_true rfl)) hl.1 dLaw_law_2933 ⟨Nat.le_trans (Nat.add_le_add_left (Nat.le_of_ble_eq_true rfl) _) hcl, Nat.le_trans (Nat.add_le_add_left (Nat.le_of_ble_eq_true rfl) _) hsl⟩ (fun H2 locs2 J2 => ?_)
  refine lv_istore (lv' := [(7, .int v), (6, .int (nI (lK j r))), (0, .ref b), (1, .ref (α0 0 0)), (2, .ref (μ 0)), (3, .ref bo), (4, .ref bd), (5, .int (nI i))]) hx hb dLaw_law_2936 hl (by decide) rfl (fun ls hl => ?_)
  refine lv_aload_n hx hb dLaw_law_2938 rfl (lv_at hl 4 rfl) ?_
  refine l_modI (As := []) (rest := []) X J2 (cm_thrown l Dm cm μ (lB lo hm) τ2 (τ2.1 0, τ2) rfl) mwl_thrown ⟨rfl, rfl⟩ ⟨Nat.le_of_ble_eq_true rfl, Nat.le_of_ble_eq_true rfl⟩ rfl rfl (cats_le _ (Nat.le_of_ble_eq_true rfl)) hl.1 dLaw_law_2939 ⟨Nat.le_trans (Nat.add_le_add_left (Nat.le_of_ble_eq_true rfl) _) hcl, Nat.le_trans (Nat.add_le_add_left (Nat.le_of_ble_eq_true rfl) _) hsl⟩ (fun H3 locs3 J3 => ?_)
  refine lv_iload hx hb dLaw_law_2942 (lv_at hl 1 rfl) ?_
  refine lv_icmp_eq (tgt := 2949) hx hb dLaw_law_2944 (by decide) (fun _ => ?_) (fun q => absurd hth q)
  refine lv_iload hx hb dLaw_law_2949 (lv_at hl 1 rfl) ?_
  have fin : W p l e room_1 s m #[Value.ref b] below meth c H3 locs3 (cells + 12) (slots + 700) Q (F0 m 3212 ls []) := kk g1 σ1 τ2 α1 _ fd H3 locs3 ls hR1 J3 (lv_sub hl [2, 3, 4, 5, 6, 7] rfl)
  refine W.widen (k := cells + 12) (n := slots + 700) (Nat.add_le_add_left (Nat.le_of_ble_eq_true rfl) _) (Nat.add_le_add_left (Nat.le_of_ble_eq_true rfl) _) ?_
  refine lv_if_ne (tgt := 2966) hx hb dLaw_law_2951 (by decide) (fun q => ?_) (fun q => ?_)
  · refine lv_goto (tgt := 3212) hx hb dLaw_law_2966 (by decide) ?_
    exact fin
  · rcases hrr with ⟨k0, rfl⟩ | ⟨k0, k1⟩
    · refine lv_aload_n hx hb dLaw_law_2954 rfl (lv_at hl 5 rfl) ?_
      refine lv_iconst (v := (0 : Int32)) hx hb dLaw_law_2955 (by decide) ?_
      refine va_lald hx hb X.2.2.1.2.2.1 J3.2.2.1.1 0 0 rfl rfl vp01 dLaw_law_2956 ?_
      refine lv_iload hx hb dLaw_law_2957 (lv_at hl 0 rfl) ?_
      refine lv_i2l hx hb dLaw_law_2959 rfl ?_
      refine W.lcmp hx hb dLaw_law_2960 ?_
      refine lv_if_eq (tgt := 2966) hx hb dLaw_law_2961 (by decide) (fun _ => ?_) (fun q => absurd (lg0.mpr (rfl)) q)
      refine lv_goto (tgt := 3212) hx hb dLaw_law_2966 (by decide) ?_
      exact fin
    · exact absurd q (nz_k k0 k1)
theorem lw_signOf : lCallS 353 yLaw_signOf cLaw_signOf 4 (lHh [2, 5] 9 (fun j => ([12, 15] : List Nat).getD j 0)) 3 := ⟨⟨wl_in (i := 1780) (by decide +kernel), wl_in (i := 1781) (by decide +kernel), wl_in (i := 0) (by decide +kernel), wl_in (i := 1782) (by decide +kernel)⟩, by decide, by decide, by decide +kernel⟩
theorem mwl_signOf : cCallV RV 355 RX12 yX12_signOf cX12_signOf 2 (some .char) 1 := ⟨⟨wl_in (i := 2401) (by decide +kernel), wl_in (i := 2402) (by decide +kernel), wl_in (i := 2403) (by decide +kernel), wl_in (i := 16) (by decide +kernel), wl_in (i := 2404) (by decide +kernel)⟩, rfl, by decide, by decide, by decide +kernel⟩
set_option maxHeartbeats 4000000 in
set_option maxRecDepth 100000 in
theorem lc_signOf {p : Program} {l : Launch} {e : Env} {s : State} {m : MethodId} {below : List Frame} {meth : Method} {c : Code} {H : Heap} {locs : List Loc} {cells slots : Nat} {Q : State → Prop} {b L : Nat} {xs : Nat → Int32} {ls : Array Slot} {D Dm : va_G} {ca cm : Nat → ClassId} {cO cOd : ClassId} {α0 α : cAl} {lo hm hi bo bd : Nat} {μ : Nat → Nat} {g : Gm} {σ : cS} {τ : mS} {f : Nat → Int64} {fd : Nat → UInt64} {i : Nat} (hst : l.stackTraces = false) (hL : L ≤ 2560) (X : lX p s m c b L xs D Dm ca cm cO cOd α0 lo hm hi bo bd) (J : lJ s D Dm ca cm cO cOd α0 lo hm hi bo bd μ σ τ α f fd H locs) (hR : Rel g σ τ) (h5 : i + 5 ≤ L) (hl : lv_has ls 9 [(0, .ref b), (1, .ref (α0 0 0)), (2, .ref (μ 0)), (3, .ref bo), (4, .ref bd), (5, .int (nI i))]) (hcl : cells + 12 ≤ room_1.cells) (hsl : slots + 700 ≤ room_1.slots)
    (kk : ∀ (g' : Gm) (σ' : cS) (τ' : mS) (α' : cAl) (f' : Nat → Int64) (fd' : Nat → UInt64) (H' : Heap) (locs' : List Loc) (ls' : Array Slot), Rel g' σ' τ' → lJ s D Dm ca cm cO cOd α0 lo hm hi bo bd μ σ' τ' α' f' fd' H' locs' → lv_has ls' 9 [(0, .ref b), (1, .ref (α0 0 0)), (2, .ref (μ 0)), (3, .ref bo), (4, .ref bd), (5, .int (nI i))] → W p l e room_1 s m #[Value.ref b] below meth c H' locs' (cells + 12) (slots + 700) Q (F0 m 3212 ls' [])) :
    W p l e room_1 s m #[Value.ref b] below meth c H locs cells slots Q (F0 m 2969 ls []) := by
  obtain ⟨hx, hb, -, -, -⟩ := id X.1
  obtain ⟨hbo, -⟩ := l_nbo X
  obtain ⟨h17, -⟩ := l_n17 X J
  obtain ⟨g1, r, σ1, v, τ2, hfc, hfm, hagr, hR1⟩ := meth_signOf hR (xs (i + 1))
  obtain ⟨j, hj1, hth, hrr⟩ := hagr.use (by decide)
  refine lv_aload_n hx hb dLaw_law_2969 rfl (lv_at hl 1 rfl) ?_
  refine l_arg (i := i) (k := 1) X J.2.2.2.1 hL (by omega) (by decide) (lv_at hl 0 rfl) (lv_at hl 5 rfl) dLaw_law_2970 dLaw_law_2971 dLaw_law_2973 dLaw_law_2974 dLaw_law_2975 ?_
  refine lv_aload_n hx hb dLaw_law_2976 rfl (lv_at hl 3 rfl) ?_
  refine l_wr (As := [.int (xs (i + 1)), .ref bo]) (rest := []) X J (cv_signOf l hst D ca (lA s.heap.size lo hi) bo cO α σ f hbo h17 (xs (i + 1)) (r, σ1) hfc j hj1) lw_signOf ⟨rfl, rfl⟩ ⟨Nat.le_of_ble_eq_true rfl, Nat.le_of_ble_eq_true rfl⟩ rfl rfl (cats_le _ (Nat.le_of_ble_eq_true rfl)) hl.1 dLaw_law_2977 ⟨Nat.le_trans (Nat.add_le_add_left (Nat.le_of_ble_eq_true rfl) _) hcl, Nat.le_trans (Nat.add_le_add_left (Nat.le_of_ble_eq_true rfl) _) hsl⟩ (fun α1 H1 locs1 J1 => ?_)
  refine lv_istore (lv' := [(6, .int (nI (lK j r))), (0, .ref b), (1, .ref (α0 0 0)), (2, .ref (μ 0)), (3, .ref bo), (4, .ref bd), (5, .int (nI i))]) hx hb dLaw_law_2980 hl (by decide) rfl (fun ls hl => ?_)
  refine lv_aload_n hx hb dLaw_law_2982 rfl (lv_at hl 3 rfl) ?_
  refine l_arg (i := i) (k := 1) X J1.2.2.2.1 hL (by omega) (by decide) (lv_at hl 1 rfl) (lv_at hl 6 rfl) dLaw_law_2983 dLaw_law_2984 dLaw_law_2986 dLaw_law_2987 dLaw_law_2988 ?_
  refine l_modI (As := [.int (xs (i + 1))]) (rest := []) X J1 (cm_signOf l Dm cm μ (lB lo hm) τ (xs (i + 1)) (v, τ2) hfm) mwl_signOf ⟨rfl, rfl⟩ ⟨Nat.le_of_ble_eq_true rfl, Nat.le_of_ble_eq_true rfl⟩ rfl rfl (cats_le _ (Nat.le_of_ble_eq_true rfl)) hl.1 dLaw_law_2989 ⟨Nat.le_trans (Nat.add_le_add_left (Nat.le_of_ble_eq_true rfl) _) hcl, Nat.le_trans (Nat.add_le_add_left (Nat.le_of_ble_eq_true rfl) _) hsl⟩ (fun H2 locs2 J2 => ?_)
  refine lv_istore (lv' := [(7, .int v), (6, .int (nI (lK j r))), (0, .ref b), (1, .ref (α0 0 0)), (2, .ref (μ 0)), (3, .ref bo), (4, .ref bd), (5, .int (nI i))]) hx hb dLaw_law_2992 hl (by decide) rfl (fun ls hl => ?_)
  refine lv_aload_n hx hb dLaw_law_2994 rfl (lv_at hl 4 rfl) ?_
  refine l_modI (As := []) (rest := []) X J2 (cm_thrown l Dm cm μ (lB lo hm) τ2 (τ2.1 0, τ2) rfl) mwl_thrown ⟨rfl, rfl⟩ ⟨Nat.le_of_ble_eq_true rfl, Nat.le_of_ble_eq_true rfl⟩ rfl rfl (cats_le _ (Nat.le_of_ble_eq_true rfl)) hl.1 dLaw_law_2995 ⟨Nat.le_trans (Nat.add_le_add_left (Nat.le_of_ble_eq_true rfl) _) hcl, Nat.le_trans (Nat.add_le_add_left (Nat.le_of_ble_eq_true rfl) _) hsl⟩ (fun H3 locs3 J3 => ?_)
  refine lv_iload hx hb dLaw_law_2998 (lv_at hl 1 rfl) ?_
  refine lv_icmp_eq (tgt := 3005) hx hb dLaw_law_3000 (by decide) (fun _ => ?_) (fun q => absurd hth q)
  refine lv_iload hx hb dLaw_law_3005 (lv_at hl 1 rfl) ?_
  have fin : W p l e room_1 s m #[Value.ref b] below meth c H3 locs3 (cells + 12) (slots + 700) Q (F0 m 3212 ls []) := kk g1 σ1 τ2 α1 _ fd H3 locs3 ls hR1 J3 (lv_sub hl [2, 3, 4, 5, 6, 7] rfl)
  refine W.widen (k := cells + 12) (n := slots + 700) (Nat.add_le_add_left (Nat.le_of_ble_eq_true rfl) _) (Nat.add_le_add_left (Nat.le_of_ble_eq_true rfl) _) ?_
  refine lv_if_ne (tgt := 3022) hx hb dLaw_law_3007 (by decide) (fun q => ?_) (fun q => ?_)
  · refine lv_goto (tgt := 3212) hx hb dLaw_law_3022 (by decide) ?_
    exact fin
  · rcases hrr with ⟨k0, rfl⟩ | ⟨k0, k1⟩
    · refine lv_aload_n hx hb dLaw_law_3010 rfl (lv_at hl 5 rfl) ?_
      refine lv_iconst (v := (0 : Int32)) hx hb dLaw_law_3011 (by decide) ?_
      refine va_lald hx hb X.2.2.1.2.2.1 J3.2.2.1.1 0 0 rfl rfl vp01 dLaw_law_3012 ?_
      refine lv_iload hx hb dLaw_law_3013 (lv_at hl 0 rfl) ?_
      refine lv_i2l hx hb dLaw_law_3015 rfl ?_
      refine W.lcmp hx hb dLaw_law_3016 ?_
      refine lv_if_eq (tgt := 3022) hx hb dLaw_law_3017 (by decide) (fun _ => ?_) (fun q => absurd (lg0.mpr (rfl)) q)
      refine lv_goto (tgt := 3212) hx hb dLaw_law_3022 (by decide) ?_
      exact fin
    · exact absurd q (nz_k k0 k1)
theorem lw_checksum : lCallS 356 yLaw_checksum cLaw_checksum 3 (lHh [2] 7 (fun j => ([10] : List Nat).getD j 0)) 2 := ⟨⟨wl_in (i := 1797) (by decide +kernel), wl_in (i := 1798) (by decide +kernel), wl_in (i := 0) (by decide +kernel), wl_in (i := 1799) (by decide +kernel)⟩, by decide, by decide, by decide +kernel⟩
theorem mwl_checksum : cCallV RV 358 RX12 yX12_checksum cX12_checksum 5 (some .long) 0 := ⟨⟨wl_in (i := 2405) (by decide +kernel), wl_in (i := 2406) (by decide +kernel), wl_in (i := 2407) (by decide +kernel), wl_in (i := 16) (by decide +kernel), wl_in (i := 2408) (by decide +kernel)⟩, rfl, by decide, by decide, by decide +kernel⟩
set_option maxHeartbeats 4000000 in
set_option maxRecDepth 100000 in
theorem lc_checksum {p : Program} {l : Launch} {e : Env} {s : State} {m : MethodId} {below : List Frame} {meth : Method} {c : Code} {H : Heap} {locs : List Loc} {cells slots : Nat} {Q : State → Prop} {b L : Nat} {xs : Nat → Int32} {ls : Array Slot} {D Dm : va_G} {ca cm : Nat → ClassId} {cO cOd : ClassId} {α0 α : cAl} {lo hm hi bo bd : Nat} {μ : Nat → Nat} {g : Gm} {σ : cS} {τ : mS} {f : Nat → Int64} {fd : Nat → UInt64} {i : Nat} (hst : l.stackTraces = false) (hL : L ≤ 2560) (X : lX p s m c b L xs D Dm ca cm cO cOd α0 lo hm hi bo bd) (J : lJ s D Dm ca cm cO cOd α0 lo hm hi bo bd μ σ τ α f fd H locs) (hR : Rel g σ τ) (h5 : i + 5 ≤ L) (hl : lv_has ls 9 [(0, .ref b), (1, .ref (α0 0 0)), (2, .ref (μ 0)), (3, .ref bo), (4, .ref bd), (5, .int (nI i))]) (hcl : cells + 12 ≤ room_1.cells) (hsl : slots + 700 ≤ room_1.slots)
    (kk : ∀ (g' : Gm) (σ' : cS) (τ' : mS) (α' : cAl) (f' : Nat → Int64) (fd' : Nat → UInt64) (H' : Heap) (locs' : List Loc) (ls' : Array Slot), Rel g' σ' τ' → lJ s D Dm ca cm cO cOd α0 lo hm hi bo bd μ σ' τ' α' f' fd' H' locs' → lv_has ls' 9 [(0, .ref b), (1, .ref (α0 0 0)), (2, .ref (μ 0)), (3, .ref bo), (4, .ref bd), (5, .int (nI i))] → W p l e room_1 s m #[Value.ref b] below meth c H' locs' (cells + 12) (slots + 700) Q (F0 m 3212 ls' [])) :
    W p l e room_1 s m #[Value.ref b] below meth c H locs cells slots Q (F0 m 3025 ls []) := by
  obtain ⟨hx, hb, -, -, -⟩ := id X.1
  obtain ⟨hbo, -⟩ := l_nbo X
  obtain ⟨h17, -⟩ := l_n17 X J
  obtain ⟨g1, r, σ1, v, τ2, j, hfc, hfm, hj1, hth, hrr, hR1⟩ := (meth_checksum hR).use (by decide)
  refine lv_aload_n hx hb dLaw_law_3025 rfl (lv_at hl 1 rfl) ?_
  refine lv_aload_n hx hb dLaw_law_3026 rfl (lv_at hl 3 rfl) ?_
  refine l_wr (As := [.ref bo]) (rest := []) X J (cv_checksum l hst D ca (lA s.heap.size lo hi) bo cO α σ f hbo h17  (r, σ1) hfc j hj1) lw_checksum ⟨rfl, rfl⟩ ⟨Nat.le_of_ble_eq_true rfl, Nat.le_of_ble_eq_true rfl⟩ rfl rfl (cats_le _ (Nat.le_of_ble_eq_true rfl)) hl.1 dLaw_law_3027 ⟨Nat.le_trans (Nat.add_le_add_left (Nat.le_of_ble_eq_true rfl) _) hcl, Nat.le_trans (Nat.add_le_add_left (Nat.le_of_ble_eq_true rfl) _) hsl⟩ (fun α1 H1 locs1 J1 => ?_)
  refine lv_istore (lv' := [(6, .int (nI (lK j r))), (0, .ref b), (1, .ref (α0 0 0)), (2, .ref (μ 0)), (3, .ref bo), (4, .ref bd), (5, .int (nI i))]) hx hb dLaw_law_3030 hl (by decide) rfl (fun ls hl => ?_)
  refine lv_aload_n hx hb dLaw_law_3032 rfl (lv_at hl 3 rfl) ?_
  refine l_modL (As := []) (rest := []) X J1 (cm_checksum l Dm cm μ (lB lo hm) τ  (v, τ2) hfm) mwl_checksum ⟨rfl, rfl⟩ ⟨Nat.le_of_ble_eq_true rfl, Nat.le_of_ble_eq_true rfl⟩ rfl rfl (cats_le _ (Nat.le_of_ble_eq_true rfl)) hl.1 dLaw_law_3033 ⟨Nat.le_trans (Nat.add_le_add_left (Nat.le_of_ble_eq_true rfl) _) hcl, Nat.le_trans (Nat.add_le_add_left (Nat.le_of_ble_eq_true rfl) _) hsl⟩ (fun H2 locs2 J2 => ?_)
  refine lv_lstore (lv' := [(7, .long v), (6, .int (nI (lK j r))), (0, .ref b), (1, .ref (α0 0 0)), (2, .ref (μ 0)), (3, .ref bo), (4, .ref bd), (5, .int (nI i))]) hx hb dLaw_law_3036 hl (by decide) rfl (fun ls hl => ?_)
  refine lv_aload_n hx hb dLaw_law_3038 rfl (lv_at hl 4 rfl) ?_
  refine l_modI (As := []) (rest := []) X J2 (cm_thrown l Dm cm μ (lB lo hm) τ2 (τ2.1 0, τ2) rfl) mwl_thrown ⟨rfl, rfl⟩ ⟨Nat.le_of_ble_eq_true rfl, Nat.le_of_ble_eq_true rfl⟩ rfl rfl (cats_le _ (Nat.le_of_ble_eq_true rfl)) hl.1 dLaw_law_3039 ⟨Nat.le_trans (Nat.add_le_add_left (Nat.le_of_ble_eq_true rfl) _) hcl, Nat.le_trans (Nat.add_le_add_left (Nat.le_of_ble_eq_true rfl) _) hsl⟩ (fun H3 locs3 J3 => ?_)
  refine lv_iload hx hb dLaw_law_3042 (lv_at hl 1 rfl) ?_
  refine lv_icmp_eq (tgt := 3049) hx hb dLaw_law_3044 (by decide) (fun _ => ?_) (fun q => absurd hth q)
  refine lv_iload hx hb dLaw_law_3049 (lv_at hl 1 rfl) ?_
  have fin : W p l e room_1 s m #[Value.ref b] below meth c H3 locs3 (cells + 12) (slots + 700) Q (F0 m 3212 ls []) := kk g1 σ1 τ2 α1 _ fd H3 locs3 ls hR1 J3 (lv_sub hl [2, 3, 4, 5, 6, 7] rfl)
  refine W.widen (k := cells + 12) (n := slots + 700) (Nat.add_le_add_left (Nat.le_of_ble_eq_true rfl) _) (Nat.add_le_add_left (Nat.le_of_ble_eq_true rfl) _) ?_
  refine lv_if_ne (tgt := 3065) hx hb dLaw_law_3051 (by decide) (fun q => ?_) (fun q => ?_)
  · refine lv_goto (tgt := 3212) hx hb dLaw_law_3065 (by decide) ?_
    exact fin
  · rcases hrr with ⟨k0, rfl, -⟩ | ⟨k0, k1⟩
    · refine lv_aload_n hx hb dLaw_law_3054 rfl (lv_at hl 5 rfl) ?_
      refine lv_iconst (v := (0 : Int32)) hx hb dLaw_law_3055 (by decide) ?_
      refine va_lald hx hb X.2.2.1.2.2.1 J3.2.2.1.1 0 0 rfl rfl vp01 dLaw_law_3056 ?_
      refine lv_lload hx hb dLaw_law_3057 (lv_at hl 0 rfl) ?_
      refine W.lcmp hx hb dLaw_law_3059 ?_
      refine lv_if_eq (tgt := 3065) hx hb dLaw_law_3060 (by decide) (fun _ => ?_) (fun q => absurd (lg0.mpr (rfl)) q)
      refine lv_goto (tgt := 3212) hx hb dLaw_law_3065 (by decide) ?_
      exact fin
    · exact absurd q (nz_k k0 k1)
