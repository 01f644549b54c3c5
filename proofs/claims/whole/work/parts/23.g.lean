/-! The law's cases. -/
theorem lw_isKnown : lCallS 296 yLaw_isKnown cLaw_isKnown 4 (lHh [4, 2] 16 (fun j => ([19, 22] : List Nat).getD j 0)) 3 := ⟨⟨wl_in (i := 1338) (by decide +kernel), wl_in (i := 1339) (by decide +kernel), wl_in (i := 0) (by decide +kernel), wl_in (i := 1340) (by decide +kernel)⟩, by decide, by decide, by decide +kernel⟩
theorem mwl_isKnown : cCallV RV 298 RX12 yX12_isKnown cX12_isKnown 2 (some .boolean) 1 := ⟨⟨wl_in (i := 2277) (by decide +kernel), wl_in (i := 2278) (by decide +kernel), wl_in (i := 2279) (by decide +kernel), wl_in (i := 16) (by decide +kernel), wl_in (i := 2280) (by decide +kernel)⟩, rfl, by decide, by decide, by decide +kernel⟩
set_option maxHeartbeats 4000000 in
set_option maxRecDepth 100000 in
theorem lc_isKnown {p : Program} {l : Launch} {e : Env} {s : State} {m : MethodId} {below : List Frame} {meth : Method} {c : Code} {H : Heap} {locs : List Loc} {cells slots : Nat} {Q : State → Prop} {b L : Nat} {xs : Nat → Int32} {ls : Array Slot} {D Dm : va_G} {ca cm : Nat → ClassId} {cO cOd : ClassId} {α0 α : cAl} {lo hm hi bo bd : Nat} {μ : Nat → Nat} {g : Gm} {σ : cS} {τ : mS} {f : Nat → Int64} {fd : Nat → UInt64} {i : Nat} (hst : l.stackTraces = false) (hL : L ≤ 2560) (X : lX p s m c b L xs D Dm ca cm cO cOd α0 lo hm hi bo bd) (J : lJ s D Dm ca cm cO cOd α0 lo hm hi bo bd μ σ τ α f fd H locs) (hR : Rel g σ τ) (h5 : i + 5 ≤ L) (hl : lv_has ls 9 [(0, .ref b), (1, .ref (α0 0 0)), (2, .ref (μ 0)), (3, .ref bo), (4, .ref bd), (5, .int (nI i))]) (hcl : cells + 12 ≤ room_1.cells) (hsl : slots + 700 ≤ room_1.slots)
    (kk : ∀ (g' : Gm) (σ' : cS) (τ' : mS) (α' : cAl) (f' : Nat → Int64) (fd' : Nat → UInt64) (H' : Heap) (locs' : List Loc) (ls' : Array Slot), Rel g' σ' τ' → lJ s D Dm ca cm cO cOd α0 lo hm hi bo bd μ σ' τ' α' f' fd' H' locs' → lv_has ls' 9 [(0, .ref b), (1, .ref (α0 0 0)), (2, .ref (μ 0)), (3, .ref bo), (4, .ref bd), (5, .int (nI i))] → W p l e room_1 s m #[Value.ref b] below meth c H' locs' (cells + 12) (slots + 700) Q (F0 m 3212 ls' [])) :
    W p l e room_1 s m #[Value.ref b] below meth c H locs cells slots Q (F0 m 2043 ls []) := by
  obtain ⟨hx, hb, -, -, -⟩ := id X.1
  obtain ⟨hbo, -⟩ := l_nbo X
  obtain ⟨h17, -⟩ := l_n17 X J
  obtain ⟨g1, r, σ1, v, τ2, hfc, hfm, hagr, hR1⟩ := meth_isKnown hR (xs (i + 1))
  obtain ⟨j, hj1, hth, hrr⟩ := hagr.use (by decide)
  refine lv_aload_n hx hb dLaw_law_2043 rfl (lv_at hl 1 rfl) ?_
  refine l_arg (i := i) (k := 1) X J.2.2.2.1 hL (by omega) (by decide) (lv_at hl 0 rfl) (lv_at hl 5 rfl) dLaw_law_2044 dLaw_law_2045 dLaw_law_2047 dLaw_law_2048 dLaw_law_2049 ?_
  refine lv_aload_n hx hb dLaw_law_2050 rfl (lv_at hl 3 rfl) ?_
  refine l_wr (As := [.int (xs (i + 1)), .ref bo]) (rest := []) X J (cv_isKnown l hst D ca (lA s.heap.size lo hi) bo cO α σ f hbo h17 (xs (i + 1)) (r, σ1) hfc j hj1) lw_isKnown ⟨rfl, rfl⟩ ⟨Nat.le_of_ble_eq_true rfl, Nat.le_of_ble_eq_true rfl⟩ rfl rfl (cats_le _ (Nat.le_of_ble_eq_true rfl)) hl.1 dLaw_law_2051 ⟨Nat.le_trans (Nat.add_le_add_left (Nat.le_of_ble_eq_true rfl) _) hcl, Nat.le_trans (Nat.add_le_add_left (Nat.le_of_ble_eq_true rfl) _) hsl⟩ (fun α1 H1 locs1 J1 => ?_)
  refine lv_istore (lv' := [(6, .int (nI (lK j r))), (0, .ref b), (1, .ref (α0 0 0)), (2, .ref (μ 0)), (3, .ref bo), (4, .ref bd), (5, .int (nI i))]) hx hb dLaw_law_2054 hl (by decide) rfl (fun ls hl => ?_)
  refine lv_aload_n hx hb dLaw_law_2056 rfl (lv_at hl 3 rfl) ?_
  refine l_arg (i := i) (k := 1) X J1.2.2.2.1 hL (by omega) (by decide) (lv_at hl 1 rfl) (lv_at hl 6 rfl) dLaw_law_2057 dLaw_law_2058 dLaw_law_2060 dLaw_law_2061 dLaw_law_2062 ?_
  refine l_modI (As := [.int (xs (i + 1))]) (rest := []) X J1 (cm_isKnown l Dm cm μ (lB lo hm) τ (xs (i + 1)) (v, τ2) hfm) mwl_isKnown ⟨rfl, rfl⟩ ⟨Nat.le_of_ble_eq_true rfl, Nat.le_of_ble_eq_true rfl⟩ rfl rfl (cats_le _ (Nat.le_of_ble_eq_true rfl)) hl.1 dLaw_law_2063 ⟨Nat.le_trans (Nat.add_le_add_left (Nat.le_of_ble_eq_true rfl) _) hcl, Nat.le_trans (Nat.add_le_add_left (Nat.le_of_ble_eq_true rfl) _) hsl⟩ (fun H2 locs2 J2 => ?_)
  refine lv_istore (lv' := [(7, .int v), (6, .int (nI (lK j r))), (0, .ref b), (1, .ref (α0 0 0)), (2, .ref (μ 0)), (3, .ref bo), (4, .ref bd), (5, .int (nI i))]) hx hb dLaw_law_2066 hl (by decide) rfl (fun ls hl => ?_)
  refine lv_aload_n hx hb dLaw_law_2068 rfl (lv_at hl 4 rfl) ?_
  refine l_modI (As := []) (rest := []) X J2 (cm_thrown l Dm cm μ (lB lo hm) τ2 (τ2.1 0, τ2) rfl) mwl_thrown ⟨rfl, rfl⟩ ⟨Nat.le_of_ble_eq_true rfl, Nat.le_of_ble_eq_true rfl⟩ rfl rfl (cats_le _ (Nat.le_of_ble_eq_true rfl)) hl.1 dLaw_law_2069 ⟨Nat.le_trans (Nat.add_le_add_left (Nat.le_of_ble_eq_true rfl) _) hcl, Nat.le_trans (Nat.add_le_add_left (Nat.le_of_ble_eq_true rfl) _) hsl⟩ (fun H3 locs3 J3 => ?_)
  refine lv_iload hx hb dLaw_law_2072 (lv_at hl 1 rfl) ?_
  refine lv_icmp_eq (tgt := 2079) hx hb dLaw_law_2074 (by decide) (fun _ => ?_) (fun q => absurd hth q)
  refine lv_iload hx hb dLaw_law_2079 (lv_at hl 1 rfl) ?_
  have fin : W p l e room_1 s m #[Value.ref b] below meth c H3 locs3 (cells + 12) (slots + 700) Q (F0 m 3212 ls []) := kk g1 σ1 τ2 α1 _ fd H3 locs3 ls hR1 J3 (lv_sub hl [2, 3, 4, 5, 6, 7] rfl)
  refine W.widen (k := cells + 12) (n := slots + 700) (Nat.add_le_add_left (Nat.le_of_ble_eq_true rfl) _) (Nat.add_le_add_left (Nat.le_of_ble_eq_true rfl) _) ?_
  refine lv_if_ne (tgt := 2103) hx hb dLaw_law_2081 (by decide) (fun q => ?_) (fun q => ?_)
  · refine lv_goto (tgt := 3212) hx hb dLaw_law_2103 (by decide) ?_
    exact fin
  · rcases hrr with ⟨k0, rfl⟩ | ⟨k0, k1⟩
    · refine lv_aload_n hx hb dLaw_law_2084 rfl (lv_at hl 5 rfl) ?_
      refine lv_iconst (v := (0 : Int32)) hx hb dLaw_law_2085 (by decide) ?_
      refine va_lald hx hb X.2.2.1.2.2.1 J3.2.2.1.1 0 0 rfl rfl vp01 dLaw_law_2086 ?_
      refine lv_iload hx hb dLaw_law_2087 (lv_at hl 0 rfl) ?_
      refine lv_if_eq (tgt := 2096) hx hb dLaw_law_2089 (by decide) (fun q1 => ?_) (fun q1 => ?_)
      · refine lv_lconst (v := (0 : Int64)) hx hb dLaw_law_2096 (by decide) ?_
        refine W.lcmp hx hb dLaw_law_2097 ?_
        refine lv_if_eq (tgt := 2103) hx hb dLaw_law_2098 (by decide) (fun _ => ?_) (fun q => absurd (lg0.mpr (show (if v = 0 then (0 : Int64) else 1) = 0 from if_pos q1)) q)
        refine lv_goto (tgt := 3212) hx hb dLaw_law_2103 (by decide) ?_
        exact fin
      · refine lv_lconst (v := (1 : Int64)) hx hb dLaw_law_2092 (by decide) ?_
        refine lv_goto (tgt := 2097) hx hb dLaw_law_2093 (by decide) ?_
        refine W.lcmp hx hb dLaw_law_2097 ?_
        refine lv_if_eq (tgt := 2103) hx hb dLaw_law_2098 (by decide) (fun _ => ?_) (fun q => absurd (lg0.mpr (show (if v = 0 then (0 : Int64) else 1) = 1 from if_neg q1)) q)
        refine lv_goto (tgt := 3212) hx hb dLaw_law_2103 (by decide) ?_
        exact fin
    · exact absurd q (nz_k k0 k1)
theorem lw_known : lCallS 299 yLaw_known cLaw_known 3 (lHh [2] 8 (fun j => ([11] : List Nat).getD j 0)) 2 := ⟨⟨wl_in (i := 1345) (by decide +kernel), wl_in (i := 1346) (by decide +kernel), wl_in (i := 0) (by decide +kernel), wl_in (i := 1347) (by decide +kernel)⟩, by decide, by decide, by decide +kernel⟩
theorem mwl_known : cCallV RV 301 RX12 yX12_known cX12_known 1 (some .int) 0 := ⟨⟨wl_in (i := 2285) (by decide +kernel), wl_in (i := 2286) (by decide +kernel), wl_in (i := 2287) (by decide +kernel), wl_in (i := 16) (by decide +kernel), wl_in (i := 2288) (by decide +kernel)⟩, rfl, by decide, by decide, by decide +kernel⟩
set_option maxHeartbeats 4000000 in
set_option maxRecDepth 100000 in
theorem lc_known {p : Program} {l : Launch} {e : Env} {s : State} {m : MethodId} {below : List Frame} {meth : Method} {c : Code} {H : Heap} {locs : List Loc} {cells slots : Nat} {Q : State → Prop} {b L : Nat} {xs : Nat → Int32} {ls : Array Slot} {D Dm : va_G} {ca cm : Nat → ClassId} {cO cOd : ClassId} {α0 α : cAl} {lo hm hi bo bd : Nat} {μ : Nat → Nat} {g : Gm} {σ : cS} {τ : mS} {f : Nat → Int64} {fd : Nat → UInt64} {i : Nat} (hst : l.stackTraces = false) (hL : L ≤ 2560) (X : lX p s m c b L xs D Dm ca cm cO cOd α0 lo hm hi bo bd) (J : lJ s D Dm ca cm cO cOd α0 lo hm hi bo bd μ σ τ α f fd H locs) (hR : Rel g σ τ) (h5 : i + 5 ≤ L) (hl : lv_has ls 9 [(0, .ref b), (1, .ref (α0 0 0)), (2, .ref (μ 0)), (3, .ref bo), (4, .ref bd), (5, .int (nI i))]) (hcl : cells + 12 ≤ room_1.cells) (hsl : slots + 700 ≤ room_1.slots)
    (kk : ∀ (g' : Gm) (σ' : cS) (τ' : mS) (α' : cAl) (f' : Nat → Int64) (fd' : Nat → UInt64) (H' : Heap) (locs' : List Loc) (ls' : Array Slot), Rel g' σ' τ' → lJ s D Dm ca cm cO cOd α0 lo hm hi bo bd μ σ' τ' α' f' fd' H' locs' → lv_has ls' 9 [(0, .ref b), (1, .ref (α0 0 0)), (2, .ref (μ 0)), (3, .ref bo), (4, .ref bd), (5, .int (nI i))] → W p l e room_1 s m #[Value.ref b] below meth c H' locs' (cells + 12) (slots + 700) Q (F0 m 3212 ls' [])) :
    W p l e room_1 s m #[Value.ref b] below meth c H locs cells slots Q (F0 m 2106 ls []) := by
  obtain ⟨hx, hb, -, -, -⟩ := id X.1
  obtain ⟨hbo, -⟩ := l_nbo X
  obtain ⟨h17, -⟩ := l_n17 X J
  obtain ⟨g1, r, σ1, v, τ2, hfc, hfm, hagr, hR1⟩ := meth_known hR 
  obtain ⟨j, hj1, hth, hrr⟩ := hagr.use (by decide)
  refine lv_aload_n hx hb dLaw_law_2106 rfl (lv_at hl 1 rfl) ?_
  refine lv_aload_n hx hb dLaw_law_2107 rfl (lv_at hl 3 rfl) ?_
  refine l_wr (As := [.ref bo]) (rest := []) X J (cv_known l hst D ca (lA s.heap.size lo hi) bo cO α σ f hbo h17  (r, σ1) hfc j hj1) lw_known ⟨rfl, rfl⟩ ⟨Nat.le_of_ble_eq_true rfl, Nat.le_of_ble_eq_true rfl⟩ rfl rfl (cats_le _ (Nat.le_of_ble_eq_true rfl)) hl.1 dLaw_law_2108 ⟨Nat.le_trans (Nat.add_le_add_left (Nat.le_of_ble_eq_true rfl) _) hcl, Nat.le_trans (Nat.add_le_add_left (Nat.le_of_ble_eq_true rfl) _) hsl⟩ (fun α1 H1 locs1 J1 => ?_)
  refine lv_istore (lv' := [(6, .int (nI (lK j r))), (0, .ref b), (1, .ref (α0 0 0)), (2, .ref (μ 0)), (3, .ref bo), (4, .ref bd), (5, .int (nI i))]) hx hb dLaw_law_2111 hl (by decide) rfl (fun ls hl => ?_)
  refine lv_aload_n hx hb dLaw_law_2113 rfl (lv_at hl 3 rfl) ?_
  refine l_modI (As := []) (rest := []) X J1 (cm_known l Dm cm μ (lB lo hm) τ  (v, τ2) hfm) mwl_known ⟨rfl, rfl⟩ ⟨Nat.le_of_ble_eq_true rfl, Nat.le_of_ble_eq_true rfl⟩ rfl rfl (cats_le _ (Nat.le_of_ble_eq_true rfl)) hl.1 dLaw_law_2114 ⟨Nat.le_trans (Nat.add_le_add_left (Nat.le_of_ble_eq_true rfl) _) hcl, Nat.le_trans (Nat.add_le_add_left (Nat.le_of_ble_eq_true rfl) _) hsl⟩ (fun H2 locs2 J2 => ?_)
  refine lv_istore (lv' := [(7, .int v), (6, .int (nI (lK j r))), (0, .ref b), (1, .ref (α0 0 0)), (2, .ref (μ 0)), (3, .ref bo), (4, .ref bd), (5, .int (nI i))]) hx hb dLaw_law_2117 hl (by decide) rfl (fun ls hl => ?_)
  refine lv_aload_n hx hb dLaw_law_2119 rfl (lv_at hl 4 rfl) ?_
  refine l_modI (As := []) (rest := []) X J2 (cm_thrown l Dm cm μ (lB lo hm) τ2 (τ2.1 0, τ2) rfl) mwl_thrown ⟨rfl, rfl⟩ ⟨Nat.le_of_ble_eq_true rfl, Nat.le_of_ble_eq_true rfl⟩ rfl rfl (cats_le _ (Nat.le_of_ble_eq_true rfl)) hl.1 dLaw_law_2120 ⟨Nat.le_trans (Nat.add_le_add_left (Nat.le_of_ble_eq_true rfl) _) hcl, Nat.le_trans (Nat.add_le_add_left (Nat.le_of_ble_eq_true rfl) _) hsl⟩ (fun H3 locs3 J3 => ?_)
  refine lv_iload hx hb dLaw_law_2123 (lv_at hl 1 rfl) ?_
  refine lv_icmp_eq (tgt := 2130) hx hb dLaw_law_2125 (by decide) (fun _ => ?_) (fun q => absurd hth q)
  refine lv_iload hx hb dLaw_law_2130 (lv_at hl 1 rfl) ?_
  have fin : W p l e room_1 s m #[Value.ref b] below meth c H3 locs3 (cells + 12) (slots + 700) Q (F0 m 3212 ls []) := kk g1 σ1 τ2 α1 _ fd H3 locs3 ls hR1 J3 (lv_sub hl [2, 3, 4, 5, 6, 7] rfl)
  refine W.widen (k := cells + 12) (n := slots + 700) (Nat.add_le_add_left (Nat.le_of_ble_eq_true rfl) _) (Nat.add_le_add_left (Nat.le_of_ble_eq_true rfl) _) ?_
  refine lv_if_ne (tgt := 2147) hx hb dLaw_law_2132 (by decide) (fun q => ?_) (fun q => ?_)
  · refine lv_goto (tgt := 3212) hx hb dLaw_law_2147 (by decide) ?_
    exact fin
  · rcases hrr with ⟨k0, rfl⟩ | ⟨k0, k1⟩
    · refine lv_aload_n hx hb dLaw_law_2135 rfl (lv_at hl 5 rfl) ?_
      refine lv_iconst (v := (0 : Int32)) hx hb dLaw_law_2136 (by decide) ?_
      refine va_lald hx hb X.2.2.1.2.2.1 J3.2.2.1.1 0 0 rfl rfl vp01 dLaw_law_2137 ?_
      refine lv_iload hx hb dLaw_law_2138 (lv_at hl 0 rfl) ?_
      refine lv_i2l hx hb dLaw_law_2140 rfl ?_
      refine W.lcmp hx hb dLaw_law_2141 ?_
      refine lv_if_eq (tgt := 2147) hx hb dLaw_law_2142 (by decide) (fun _ => ?_) (fun q => absurd (lg0.mpr (rfl)) q)
      refine lv_goto (tgt := 3212) hx hb dLaw_law_2147 (by decide) ?_
      exact fin
    · exact absurd q (nz_k k0 k1)
theorem lw_learnt : lCallS 302 yLaw_learnt cLaw_learnt 4 (lHh [4, 2, 5] 9 (fun j => ([12, 15, 18] : List Nat).getD j 0)) 3 := ⟨⟨wl_in (i := 1352) (by decide +kernel), wl_in (i := 1353) (by decide +kernel), wl_in (i := 0) (by decide +kernel), wl_in (i := 1354) (by decide +kernel)⟩, by decide, by decide, by decide +kernel⟩
theorem mwl_learnt : cCallV RV 304 RX12 yX12_learnt cX12_learnt 4 (some .int) 1 := ⟨⟨wl_in (i := 2289) (by decide +kernel), wl_in (i := 2290) (by decide +kernel), wl_in (i := 2291) (by decide +kernel), wl_in (i := 16) (by decide +kernel), wl_in (i := 2292) (by decide +kernel)⟩, rfl, by decide, by decide, by decide +kernel⟩
set_option maxHeartbeats 4000000 in
set_option maxRecDepth 100000 in
theorem lc_learnt {p : Program} {l : Launch} {e : Env} {s : State} {m : MethodId} {below : List Frame} {meth : Method} {c : Code} {H : Heap} {locs : List Loc} {cells slots : Nat} {Q : State → Prop} {b L : Nat} {xs : Nat → Int32} {ls : Array Slot} {D Dm : va_G} {ca cm : Nat → ClassId} {cO cOd : ClassId} {α0 α : cAl} {lo hm hi bo bd : Nat} {μ : Nat → Nat} {g : Gm} {σ : cS} {τ : mS} {f : Nat → Int64} {fd : Nat → UInt64} {i : Nat} (hst : l.stackTraces = false) (hL : L ≤ 2560) (X : lX p s m c b L xs D Dm ca cm cO cOd α0 lo hm hi bo bd) (J : lJ s D Dm ca cm cO cOd α0 lo hm hi bo bd μ σ τ α f fd H locs) (hR : Rel g σ τ) (h5 : i + 5 ≤ L) (hl : lv_has ls 9 [(0, .ref b), (1, .ref (α0 0 0)), (2, .ref (μ 0)), (3, .ref bo), (4, .ref bd), (5, .int (nI i))]) (hcl : cells + 12 ≤ room_1.cells) (hsl : slots + 700 ≤ room_1.slots)
    (kk : ∀ (g' : Gm) (σ' : cS) (τ' : mS) (α' : cAl) (f' : Nat → Int64) (fd' : Nat → UInt64) (H' : Heap) (locs' : List Loc) (ls' : Array Slot), Rel g' σ' τ' → lJ s D Dm ca cm cO cOd α0 lo hm hi bo bd μ σ' τ' α' f' fd' H' locs' → lv_has ls' 9 [(0, .ref b), (1, .ref (α0 0 0)), (2, .ref (μ 0)), (3, .ref bo), (4, .ref bd), (5, .int (nI i))] → W p l e room_1 s m #[Value.ref b] below meth c H' locs' (cells + 12) (slots + 700) Q (F0 m 3212 ls' [])) :
    W p l e room_1 s m #[Value.ref b] below meth c H locs cells slots Q (F0 m 2150 ls []) := by
  obtain ⟨hx, hb, -, -, -⟩ := id X.1
  obtain ⟨hbo, -⟩ := l_nbo X
  obtain ⟨h17, -⟩ := l_n17 X J
  obtain ⟨g1, r, σ1, v, τ2, hfc, hfm, hagr, hR1⟩ := meth_learnt hR (xs (i + 1))
  obtain ⟨j, hj1, hth, hrr⟩ := hagr.use (by decide)
  refine lv_aload_n hx hb dLaw_law_2150 rfl (lv_at hl 1 rfl) ?_
  refine l_arg (i := i) (k := 1) X J.2.2.2.1 hL (by omega) (by decide) (lv_at hl 0 rfl) (lv_at hl 5 rfl) dLaw_law_2151 dLaw_law_2152 dLaw_law_2154 dLaw_law_2155 dLaw_law_2156 ?_
  refine lv_aload_n hx hb dLaw_law_2157 rfl (lv_at hl 3 rfl) ?_
  refine l_wr (As := [.int (xs (i + 1)), .ref bo]) (rest := []) X J (cv_learnt l hst D ca (lA s.heap.size lo hi) bo cO α σ f hbo h17 (xs (i + 1)) (r, σ1) hfc j hj1) lw_learnt ⟨rfl, rfl⟩ ⟨Nat.le_of_ble_eq_true rfl, Nat.le_of_ble_eq_true rfl⟩ rfl rfl (cats_le _ (Nat.le_of_ble_eq_true rfl)) hl.1 dLaw_law_2158 ⟨Nat.le_trans (Nat.add_le_add_left (Nat.le_of_ble_eq_true rfl) _) hcl, Nat.le_trans (Nat.add_le_add_left (Nat.le_of_ble_eq_true rfl) _) hsl⟩ (fun α1 H1 locs1 J1 => ?_)
  refine lv_istore (lv' := [(6, .int (nI (lK j r))), (0, .ref b), (1, .ref (α0 0 0)), (2, .ref (μ 0)), (3, .ref bo), (4, .ref bd), (5, .int (nI i))]) hx hb dLaw_law_2161 hl (by decide) rfl (fun ls hl => ?_)
  refine lv_aload_n hx hb dLaw_law_2163 rfl (lv_at hl 3 rfl) ?_
  refine l_arg (i := i) (k := 1) X J1.2.2.2.1 hL (by omega) (by decide) (lv_at hl 1 rfl) (lv_at hl 6 rfl) dLaw_law_2164 dLaw_law_2165 dLaw_law_2167 dLaw_law_2168 dLaw_law_2169 ?_
  refine l_modI (As := [.int (xs (i + 1))]) (rest := []) X J1 (cm_learnt l Dm cm μ (lB lo hm) τ (xs (i + 1)) (v, τ2) hfm) mwl_learnt ⟨rfl, rfl⟩ ⟨Nat.le_of_ble_eq_true rfl, Nat.le_of_ble_eq_true rfl⟩ rfl rfl (cats_le _ (Nat.le_of_ble_eq_true rfl)) hl.1 dLaw_law_2170 ⟨Nat.le_trans (Nat.add_le_add_left (Nat.le_of_ble_eq_true rfl) _) hcl, Nat.le_trans (Nat.add_le_add_left (Nat.le_of_ble_eq_true rfl) _) hsl⟩ (fun H2 locs2 J2 => ?_)
  refine lv_istore (lv' := [(7, .int v), (6, .int (nI (lK j r))), (0, .ref b), (1, .ref (α0 0 0)), (2, .ref (μ 0)), (3, .ref bo), (4, .ref bd), (5, .int (nI i))]) hx hb dLaw_law_2173 hl (by decide) rfl (fun ls hl => ?_)
  refine lv_aload_n hx hb dLaw_law_2175 rfl (lv_at hl 4 rfl) ?_
  refine l_modI (As := []) (rest := []) X J2 (cm_thrown l Dm cm μ (lB lo hm) τ2 (τ2.1 0, τ2) rfl) mwl_thrown ⟨rfl, rfl⟩ ⟨Nat.le_of_ble_eq_true rfl, Nat.le_of_ble_eq_true rfl⟩ rfl rfl (cats_le _ (Nat.le_of_ble_eq_true rfl)) hl.1 dLaw_law_2176 ⟨Nat.le_trans (Nat.add_le_add_left (Nat.le_of_ble_eq_true rfl) _) hcl, Nat.le_trans (Nat.add_le_add_left (Nat.le_of_ble_eq_true rfl) _) hsl⟩ (fun H3 locs3 J3 => ?_)
  refine lv_iload hx hb dLaw_law_2179 (lv_at hl 1 rfl) ?_
  refine lv_icmp_eq (tgt := 2186) hx hb dLaw_law_2181 (by decide) (fun _ => ?_) (fun q => absurd hth q)
  refine lv_iload hx hb dLaw_law_2186 (lv_at hl 1 rfl) ?_
  have fin : W p l e room_1 s m #[Value.ref b] below meth c H3 locs3 (cells + 12) (slots + 700) Q (F0 m 3212 ls []) := kk g1 σ1 τ2 α1 _ fd H3 locs3 ls hR1 J3 (lv_sub hl [2, 3, 4, 5, 6, 7] rfl)
  refine W.widen (k := cells + 12) (n := slots + 700) (Nat.add_le_add_left (Nat.le_of_ble_eq_true rfl) _) (Nat.add_le_add_left (Nat.le_of_ble_eq_true rfl) _) ?_
  refine lv_if_ne (tgt := 2203) hx hb dLaw_law_2188 (by decide) (fun q => ?_) (fun q => ?_)
  · refine lv_goto (tgt := 3212) hx hb dLaw_law_2203 (by decide) ?_
    exact fin
  · rcases hrr with ⟨k0, rfl⟩ | ⟨k0, k1⟩
    · refine lv_aload_n hx hb dLaw_law_2191 rfl (lv_at hl 5 rfl) ?_
      refine lv_iconst (v := (0 : Int32)) hx hb dLaw_law_2192 (by decide) ?_
      refine va_lald hx hb X.2.2.1.2.2.1 J3.2.2.1.1 0 0 rfl rfl vp01 dLaw_law_2193 ?_
      refine lv_iload hx hb dLaw_law_2194 (lv_at hl 0 rfl) ?_
      refine lv_i2l hx hb dLaw_law_2196 rfl ?_
      refine W.lcmp hx hb dLaw_law_2197 ?_
      refine lv_if_eq (tgt := 2203) hx hb dLaw_law_2198 (by decide) (fun _ => ?_) (fun q => absurd (lg0.mpr (rfl)) q)
      refine lv_goto (tgt := 3212) hx hb dLaw_law_2203 (by decide) ?_
      exact fin
    · exact absurd q (nz_k k0 k1)
theorem lw_postings : lCallS 305 yLaw_postings cLaw_postings 4 (lHh [4] 9 (fun j => ([12] : List Nat).getD j 0)) 3 := ⟨⟨wl_in (i := 1365) (by decide +kernel), wl_in (i := 1366) (by decide +kernel), wl_in (i := 0) (by decide +kernel), wl_in (i := 1367) (by decide +kernel)⟩, by decide, by decide, by decide +kernel⟩
theorem mwl_postings : cCallV RV 307 RX12 yX12_postings cX12_postings 2 (some .int) 1 := ⟨⟨wl_in (i := 2293) (by decide +kernel), wl_in (i := 2294) (by decide +kernel), wl_in (i := 2295) (by decide +kernel), wl_in (i := 16) (by decide +kernel), wl_in (i := 2296) (by decide +kernel)⟩, rfl, by decide, by decide, by decide +kernel⟩
set_option maxHeartbeats 4000000 in
set_option maxRecDepth 100000 in
theorem lc_postings {p : Program} {l : Launch} {e : Env} {s : State} {m : MethodId} {below : List Frame} {meth : Method} {c : Code} {H : Heap} {locs : List Loc} {cells slots : Nat} {Q : State → Prop} {b L : Nat} {xs : Nat → Int32} {ls : Array Slot} {D Dm : va_G} {ca cm : Nat → ClassId} {cO cOd : ClassId} {α0 α : cAl} {lo hm hi bo bd : Nat} {μ : Nat → Nat} {g : Gm} {σ : cS} {τ : mS} {f : Nat → Int64} {fd : Nat → UInt64} {i : Nat} (hst : l.stackTraces = false) (hL : L ≤ 2560) (X : lX p s m c b L xs D Dm ca cm cO cOd α0 lo hm hi bo bd) (J : lJ s D Dm ca cm cO cOd α0 lo hm hi bo bd μ σ τ α f fd H locs) (hR : Rel g σ τ) (h5 : i + 5 ≤ L) (hl : lv_has ls 9 [(0, .ref b), (1, .ref (α0 0 0)), (2, .ref (μ 0)), (3, .ref bo), (4, .ref bd), (5, .int (nI i))]) (hcl : cells + 12 ≤ room_1.cells) (hsl : slots + 700 ≤ room_1.slots)
    (kk : ∀ (g' : Gm) (σ' : cS) (τ' : mS) (α' : cAl) (f' : Nat → Int64) (fd' : Nat → UInt64) (H' : Heap) (locs' : List Loc) (ls' : Array Slot), Rel g' σ' τ' → lJ s D Dm ca cm cO cOd α0 lo hm hi bo bd μ σ' τ' α' f' fd' H' locs' → lv_has ls' 9 [(0, .ref b), (1, .ref (α0 0 0)), (2, .ref (μ 0)), (3, .ref bo), (4, .ref bd), (5, .int (nI i))] → W p l e room_1 s m #[Value.ref b] below meth c H' locs' (cells + 12) (slots + 700) Q (F0 m 3212 ls' [])) :
    W p l e room_1 s m #[Value.ref b] below meth c H locs cells slots Q (F0 m 2206 ls []) := by
  obtain ⟨hx, hb, -, -, -⟩ := id X.1
  obtain ⟨hbo, -⟩ := l_nbo X
  obtain ⟨h17, -⟩ := l_n17 X J
  obtain ⟨g1, r, σ1, v, τ2, hfc, hfm, hagr, hR1⟩ := meth_postings hR (xs (i + 1))
  obtain ⟨j, hj1, hth, hrr⟩ := hagr.use (by decide)
  refine lv_aload_n hx hb dLaw_law_2206 rfl (lv_at hl 1 rfl) ?_
  refine l_arg (i := i) (k := 1) X J.2.2.2.1 hL (by omega) (by decide) (lv_at hl 0 rfl) (lv_at hl 5 rfl) dLaw_law_2207 dLaw_law_2208 dLaw_law_2210 dLaw_law_2211 dLaw_law_2212 ?_
  refine lv_aload_n hx hb dLaw_law_2213 rfl (lv_at hl 3 rfl) ?_
  refine l_wr (As := [.int (xs (i + 1)), .ref bo]) (rest := []) X J (cv_postings l hst D ca (lA s.heap.size lo hi) bo cO α σ f hbo h17 (xs (i + 1)) (r, σ1) hfc j hj1) lw_postings ⟨rfl, rfl⟩ ⟨Nat.le_of_ble_eq_true rfl, Nat.le_of_ble_eq_true rfl⟩ rfl rfl (cats_le _ (Nat.le_of_ble_eq_true rfl)) hl.1 dLaw_law_2214 ⟨Nat.le_trans (Nat.add_le_add_left (Nat.le_of_ble_eq_true rfl) _) hcl, Nat.le_trans (Nat.add_le_add_left (Nat.le_of_ble_eq_true rfl) _) hsl⟩ (fun α1 H1 locs1 J1 => ?_)
  refine lv_istore (lv' := [(6, .int (nI (lK j r))), (0, .ref b), (1, .ref (α0 0 0)), (2, .ref (μ 0)), (3, .ref bo), (4, .ref bd), (5, .int (nI i))]) hx hb dLaw_law_2217 hl (by decide) rfl (fun ls hl => ?_)
  refine lv_aload_n hx hb dLaw_law_2219 rfl (lv_at hl 3 rfl) ?_
  refine l_arg (i := i) (k := 1) X J1.2.2.2.1 hL (by omega) (by decide) (lv_at hl 1 rfl) (lv_at hl 6 rfl) dLaw_law_2220 dLaw_law_2221 dLaw_law_2223 dLaw_law_2224 dLaw_law_2225 ?_
  refine l_modI (As := [.int (xs (i + 1))]) (rest := []) X J1 (cm_postings l Dm cm μ (lB lo hm) τ (xs (i + 1)) (v, τ2) hfm) mwl_postings ⟨rfl, rfl⟩ ⟨Nat.le_of_ble_eq_true rfl, Nat.le_of_ble_eq_true rfl⟩ rfl rfl (cats_le _ (Nat.le_of_ble_eq_true rfl)) hl.1 dLaw_law_2226 ⟨Nat.le_trans (Nat.add_le_add_left (Nat.le_of_ble_eq_true rfl) _) hcl, Nat.le_trans (Nat.add_le_add_left (Nat.le_of_ble_eq_true rfl) _) hsl⟩ (fun H2 locs2 J2 => ?_)
  refine lv_istore (lv' := [(7, .int v), (6, .int (nI (lK j r))), (0, .ref b), (1, .ref (α0 0 0)), (2, .ref (μ 0)), (3, .ref bo), (4, .ref bd), (5, .int (nI i))]) hx hb dLaw_law_2229 hl (by decide) rfl (fun ls hl => ?_)
  refine lv_aload_n hx hb dLaw_law_2231 rfl (lv_at hl 4 rfl) ?_
  refine l_modI (As := []) (rest := []) X J2 (cm_thrown l Dm cm μ (lB lo hm) τ2 (τ2.1 0, τ2) rfl) mwl_thrown ⟨rfl, rfl⟩ ⟨Nat.le_of_ble_eq_true rfl, Nat.le_of_ble_eq_true rfl⟩ rfl rfl (cats_le _ (Nat.le_of_ble_eq_true rfl)) hl.1 dLaw_law_2232 ⟨Nat.le_trans (Nat.add_le_add_left (Nat.le_of_ble_eq_true rfl) _) hcl, Nat.le_trans (Nat.add_le_add_left (Nat.le_of_ble_eq_true rfl) _) hsl⟩ (fun H3 locs3 J3 => ?_)
  refine lv_iload hx hb dLaw_law_2235 (lv_at hl 1 rfl) ?_
  refine lv_icmp_eq (tgt := 2242) hx hb dLaw_law_2237 (by decide) (fun _ => ?_) (fun q => absurd hth q)
  refine lv_iload hx hb dLaw_law_2242 (lv_at hl 1 rfl) ?_
  have fin : W p l e room_1 s m #[Value.ref b] below meth c H3 locs3 (cells + 12) (slots + 700) Q (F0 m 3212 ls []) := kk g1 σ1 τ2 α1 _ fd H3 locs3 ls hR1 J3 (lv_sub hl [2, 3, 4, 5, 6, 7] rfl)
  refine W.widen (k := cells + 12) (n := slots + 700) (Nat.add_le_add_left (Nat.le_of_ble_eq_true rfl) _) (Nat.add_le_add_left (Nat.le_of_ble_eq_true rfl) _) ?_
  refine lv_if_ne (tgt := 2259) hx hb dLaw_law_2244 (by decide) (fun q => ?_) (fun q => ?_)
  · refine lv_goto (tgt := 3212) hx hb dLaw_law_2259 (by decide) ?_
    exact fin
  · rcases hrr with ⟨k0, rfl⟩ | ⟨k0, k1⟩
    · refine lv_aload_n hx hb dLaw_law_2247 rfl (lv_at hl 5 rfl) ?_
      refine lv_iconst (v := (0 : Int32)) hx hb dLaw_law_2248 (by decide) ?_
      refine va_lald hx hb X.2.2.1.2.2.1 J3.2.2.1.1 0 0 rfl rfl vp01 dLaw_law_2249 ?_
      refine lv_iload hx hb dLaw_law_2250 (lv_at hl 0 rfl) ?_
      refine lv_i2l hx hb dLaw_law_2252 rfl ?_
      refine W.lcmp hx hb dLaw_law_2253 ?_
      refine lv_if_eq (tgt := 2259) hx hb dLaw_law_2254 (by decide) (fun _ => ?_) (fun q => absurd (lg0.mpr (rfl)) q)
      refine lv_goto (tgt := 3212) hx hb dLaw_law_2259 (by decide) ?_
      exact fin
    · exact absurd q (nz_k k0 k1)
theorem lw_posting : lCallS 308 yLaw_posting cLaw_posting 5 (lHh [4, 5] 10 (fun j => ([13, 17] : List Nat).getD j 0)) 4 := ⟨⟨wl_in (i := 1372) (by decide +kernel), wl_in (i := 1373) (by decide +kernel), wl_in (i := 0) (by decide +kernel), wl_in (i := 1374) (by decide +kernel)⟩, by decide, by decide, by decide +kernel⟩
theorem mwl_posting : cCallV RV 310 RX12 yX12_posting cX12_posting 5 (some .int) 2 := ⟨⟨wl_in (i := 2301) (by decide +kernel), wl_in (i := 2302) (by decide +kernel), wl_in (i := 2303) (by decide +kernel), wl_in (i := 16) (by decide +kernel), wl_in (i := 2304) (by decide +kernel)⟩, rfl, by decide, by decide, by decide +kernel⟩
set_option maxHeartbeats 4000000 in
set_option maxRecDepth 100000 in
theorem lc_posting {p : Program} {l : Launch} {e : Env} {s : State} {m : MethodId} {below : List Frame} {meth : Method} {c : Code} {H : Heap} {locs : List Loc} {cells slots : Nat} {Q : State → Prop} {b L : Nat} {xs : Nat → Int32} {ls : Array Slot} {D Dm : va_G} {ca cm : Nat → ClassId} {cO cOd : ClassId} {α0 α : cAl} {lo hm hi bo bd : Nat} {μ : Nat → Nat} {g : Gm} {σ : cS} {τ : mS} {f : Nat → Int64} {fd : Nat → UInt64} {i : Nat} (hst : l.stackTraces = false) (hL : L ≤ 2560) (X : lX p s m c b L xs D Dm ca cm cO cOd α0 lo hm hi bo bd) (J : lJ s D Dm ca cm cO cOd α0 lo hm hi bo bd μ σ τ α f fd H locs) (hR : Rel g σ τ) (h5 : i + 5 ≤ L) (hl : lv_has ls 9 [(0, .ref b), (1, .ref (α0 0 0)), (2, .ref (μ 0)), (3, .ref bo), (4, .ref bd), (5, .int (nI i))]) (hcl : cells + 12 ≤ room_1.cells) (hsl : slots + 700 ≤ room_1.slots)
    (kk : ∀ (g' : Gm) (σ' : cS) (τ' : mS) (α' : cAl) (f' : Nat → Int64) (fd' : Nat → UInt64) (H' : Heap) (locs' : List Loc) (ls' : Array Slot), Rel g' σ' τ' → lJ s D Dm ca cm cO cOd α0 lo hm hi bo bd μ σ' τ' α' f' fd' H' locs' → lv_has ls' 9 [(0, .ref b), (1, .ref (α0 0 0)), (2, .ref (μ 0)), (3, .ref bo), (4, .ref bd), (5, .int (nI i))] → W p l e room_1 s m #[Value.ref b] below meth c H' locs' (cells + 12) (slots + 700) Q (F0 m 3212 ls' [])) :
    W p l e room_1 s m #[Value.ref b] below meth c H locs cells slots Q (F0 m 2262 ls []) := by
  obtain ⟨hx, hb, -, -, -⟩ := id X.1
  obtain ⟨hbo, -⟩ := l_nbo X
  obtain ⟨h17, -⟩ := l_n17 X J
  obtain ⟨g1, r, σ1, v, τ2, hfc, hfm, hagr, hR1⟩ := meth_posting hR (xs (i + 1)) (xs (i + 2))
  obtain ⟨j, hj1, hth, hrr⟩ := hagr.use (by decide)
  refine lv_aload_n hx hb dLaw_law_2262 rfl (lv_at hl 1 rfl) ?_
  refine l_arg (i := i) (k := 1) X J.2.2.2.1 hL (by omega) (by decide) (lv_at hl 0 rfl) (lv_at hl 5 rfl) dLaw_law_2263 dLaw_law_2264 dLaw_law_2266 dLaw_law_2267 dLaw_law_2268 ?_
  refine l_arg (i := i) (k := 2) X J.2.2.2.1 hL (by omega) (by decide) (lv_at hl 0 rfl) (lv_at hl 5 rfl) dLaw_law_2269 dLaw_law_2270 dLaw_law_2272 dLaw_law_2273 dLaw_law_2274 ?_
  refine lv_aload_n hx hb dLaw_law_2275 rfl (lv_at hl 3 rfl) ?_
  refine l_wr (As := [.int (xs (i + 1)), .int (xs (i + 2)), .ref bo]) (rest := []) X J (cv_posting l hst D ca (lA s.heap.size lo hi) bo cO α σ f hbo h17 (xs (i + 1)) (xs (i + 2)) (r, σ1) hfc j hj1) lw_posting ⟨rfl, rfl⟩ ⟨Nat.le_of_ble_eq_true rfl, Nat.le_of_ble_eq_true rfl⟩ rfl rfl (cats_le _ (Nat.le_of_ble_eq_true rfl)) hl.1 dLaw_law_2276 ⟨Nat.le_trans (Nat.add_le_add_left (Nat.le_of_ble_eq_true rfl) _) hcl, Nat.le_trans (Nat.add_le_add_left (Nat.le_of_ble_eq_true rfl) _) hsl⟩ (fun α1 H1 locs1 J1 => ?_)
  refine lv_istore (lv' := [(6, .int (nI (lK j r))), (0, .ref b), (1, .ref (α0 0 0)), (2, .ref (μ 0)), (3, .ref bo), (4, .ref bd), (5, .int (nI i))]) hx hb dLaw_law_2279 hl (by decide) rfl (fun ls hl => ?_)
  refine lv_aload_n hx hb dLaw_law_2281 rfl (lv_at hl 3 rfl) ?_
  refine l_arg (i := i) (k := 1) X J1.2.2.2.1 hL (by omega) (by decide) (lv_at hl 1 rfl) (lv_at hl 6 rfl) dLaw_law_2282 dLaw_law_2283 dLaw_law_2285 dLaw_law_2286 dLaw_law_2287 ?_
  refine l_arg (i := i) (k := 2) X J1.2.2.2.1 hL (by omega) (by decide) (lv_at hl 1 rfl) (lv_at hl 6 rfl) dLaw_law_2288 dLaw_law_2289 dLaw_law_2291 dLaw_law_2292 dLaw_law_2293 ?_
  refine l_modI (As := [.int (xs (i + 1)), .int (xs (i + 2))]) (rest := []) X J1 (cm_posting l Dm cm μ (lB lo hm) τ (xs (i + 1)) (xs (i + 2)) (v, τ2) hfm) mwl_posting ⟨rfl, rfl⟩ ⟨Nat.le_of_ble_eq_true rfl, Nat.le_of_ble_eq_true rfl⟩ rfl rfl (cats_le _ (Nat.le_of_ble_eq_true rfl)) hl.1 dLaw_law_2294 ⟨Nat.le_trans (Nat.add_le_add_left (Nat.le_of_ble_eq_true rfl) _) hcl, Nat.le_trans (Nat.add_le_add_left (Nat.le_of_ble_eq_true rfl) _) hsl⟩ (fun H2 locs2 J2 => ?_)
  refine lv_istore (lv' := [(7, .int v), (6, .int (nI (lK j r))), (0, .ref b), (1, .ref (α0 0 0)), (2, .ref (μ 0)), (3, .ref bo), (4, .ref bd), (5, .int (nI i))]) hx hb dLaw_law_2297 hl (by decide) rfl (fun ls hl => ?_)
  refine lv_aload_n hx hb dLaw_law_2299 rfl (lv_at hl 4 rfl) ?_
  refine l_modI (As := []) (rest := []) X J2 (cm_thrown l Dm cm μ (lB lo hm) τ2 (τ2.1 0, τ2) rfl) mwl_thrown ⟨rfl, rfl⟩ ⟨Nat.le_of_ble_eq_true rfl, Nat.le_of_ble_eq_true rfl⟩ rfl rfl (cats_le _ (Nat.le_of_ble_eq_true rfl)) hl.1 dLaw_law_2300 ⟨Nat.le_trans (Nat.add_le_add_left (Nat.le_of_ble_eq_true rfl) _) hcl, Nat.le_trans (Nat.add_le_add_left (Nat.le_of_ble_eq_true rfl) _) hsl⟩ (fun H3 locs3 J3 => ?_)
  refine lv_iload hx hb dLaw_law_2303 (lv_at hl 1 rfl) ?_
  refine lv_icmp_eq (tgt := 2310) hx hb dLaw_law_2305 (by decide) (fun _ => ?_) (fun q => absurd hth q)
  refine lv_iload hx hb dLaw_law_2310 (lv_at hl 1 rfl) ?_
  have fin : W p l e room_1 s m #[Value.ref b] below meth c H3 locs3 (cells + 12) (slots + 700) Q (F0 m 3212 ls []) := kk g1 σ1 τ2 α1 _ fd H3 locs3 ls hR1 J3 (lv_sub hl [2, 3, 4, 5, 6, 7] rfl)
  refine W.widen (k := cells + 12) (n := slots + 700) (Nat.add_le_add_left (Nat.le_of_ble_eq_true rfl) _) (Nat.add_le_add_left (Nat.le_of_ble_eq_true rfl) _) ?_
  refine lv_if_ne (tgt := 2327) hx hb dLaw_law_2312 (by decide) (fun q => ?_) (fun q => ?_)
  · refine lv_goto (tgt := 3212) hx hb dLaw_law_2327 (by decide) ?_
    exact fin
  · rcases hrr with ⟨k0, rfl⟩ | ⟨k0, k1⟩
    · refine lv_aload_n hx hb dLaw_law_2315 rfl (lv_at hl 5 rfl) ?_
      refine lv_iconst (v := (0 : Int32)) hx hb dLaw_law_2316 (by decide) ?_
      refine va_lald hx hb X.2.2.1.2.2.1 J3.2.2.1.1 0 0 rfl rfl vp01 dLaw_law_2317 ?_
      refine lv_iload hx hb dLaw_law_2318 (lv_at hl 0 rfl) ?_
      refine lv_i2l hx hb dLaw_law_2320 rfl ?_
      refine W.lcmp hx hb dLaw_law_2321 ?_
      refine lv_if_eq (tgt := 2327) hx hb dLaw_law_2322 (by decide) (fun _ => ?_) (fun q => absurd (lg0.mpr (rfl)) q)
      refine lv_goto (tgt := 3212) hx hb dLaw_law_2327 (by decide) ?_
      exact fin
    · exact absurd q (nz_k k0 k1)
theorem lw_rare : lCallS 311 yLaw_rare cLaw_rare 4 (lHh [2, 5] 9 (fun j => ([12, 15] : List Nat).getD j 0)) 3 := ⟨⟨wl_in (i := 1384) (by decide +kernel), wl_in (i := 1385) (by decide +kernel), wl_in (i := 0) (by decide +kernel), wl_in (i := 1386) (by decide +kernel)⟩, by decide, by decide, by decide +kernel⟩
theorem mwl_rare : cCallV RV 313 RX12 yX12_rare cX12_rare 7 (some .int) 1 := ⟨⟨wl_in (i := 2305) (by decide +kernel), wl_in (i := 2306) (by decide +kernel), wl_in (i := 2307) (by decide +kernel), wl_in (i := 16) (by decide +kernel), wl_in (i := 2308) (by decide +kernel)⟩, rfl, by decide, by decide, by decide +kernel⟩
set_option maxHeartbeats 4000000 in
set_option maxRecDepth 100000 in
theorem lc_rare {p : Program} {l : Launch} {e : Env} {s : State} {m : MethodId} {below : List Frame} {meth : Method} {c : Code} {H : Heap} {locs : List Loc} {cells slots : Nat} {Q : State → Prop} {b L : Nat} {xs : Nat → Int32} {ls : Array Slot} {D Dm : va_G} {ca cm : Nat → ClassId} {cO cOd : ClassId} {α0 α : cAl} {lo hm hi bo bd : Nat} {μ : Nat → Nat} {g : Gm} {σ : cS} {τ : mS} {f : Nat → Int64} {fd : Nat → UInt64} {i : Nat} (hst : l.stackTraces = false) (hL : L ≤ 2560) (X : lX p s m c b L xs D Dm ca cm cO cOd α0 lo hm hi bo bd) (J : lJ s D Dm ca cm cO cOd α0 lo hm hi bo bd μ σ τ α f fd H locs) (hR : Rel g σ τ) (h5 : i + 5 ≤ L) (hl : lv_has ls 9 [(0, .ref b), (1, .ref (α0 0 0)), (2, .ref (μ 0)), (3, .ref bo), (4, .ref bd), (5, .int (nI i))]) (hcl : cells + 12 ≤ room_1.cells) (hsl : slots + 700 ≤ room_1.slots)
    (kk : ∀ (g' : Gm) (σ' : cS) (τ' : mS) (α' : cAl) (f' : Nat → Int64) (fd' : Nat → UInt64) (H' : Heap) (locs' : List Loc) (ls' : Array Slot), Rel g' σ' τ' → lJ s D Dm ca cm cO cOd α0 lo hm hi bo bd μ σ' τ' α' f' fd' H' locs' → lv_has ls' 9 [(0, .ref b), (1, .ref (α0 0 0)), (2, .ref (μ 0)), (3, .ref bo), (4, .ref bd), (5, .int (nI i))] → W p l e room_1 s m #[Value.ref b] below meth c H' locs' (cells + 12) (slots + 700) Q (F0 m 3212 ls' [])) :
    W p l e room_1 s m #[Value.ref b] below meth c H locs cells slots Q (F0 m 2330 ls []) := by
  obtain ⟨hx, hb, -, -, -⟩ := id X.1
  obtain ⟨hbo, -⟩ := l_nbo X
  obtain ⟨h17, -⟩ := l_n17 X J
  obtain ⟨g1, r, σ1, v, τ2, hfc, hfm, hagr, hR1⟩ := meth_rare hR (xs (i + 1))
  obtain ⟨j, hj1, hth, hrr⟩ := hagr.use (by decide)
  refine lv_aload_n hx hb dLaw_law_2330 rfl (lv_at hl 1 rfl) ?_
  refine l_arg (i := i) (k := 1) X J.2.2.2.1 hL (by omega) (by decide) (lv_at hl 0 rfl) (lv_at hl 5 rfl) dLaw_law_2331 dLaw_law_2332 dLaw_law_2334 dLaw_law_2335 dLaw_law_2336 ?_
  refine lv_aload_n hx hb dLaw_law_2337 rfl (lv_at hl 3 rfl) ?_
  refine l_wr (As := [.int (xs (i + 1)), .ref bo]) (rest := []) X J (cv_rare l hst D ca (lA s.heap.size lo hi) bo cO α σ f hbo h17 (xs (i + 1)) (r, σ1) hfc j hj1) lw_rare ⟨rfl, rfl⟩ ⟨Nat.le_of_ble_eq_true rfl, Nat.le_of_ble_eq_true rfl⟩ rfl rfl (cats_le _ (Nat.le_of_ble_eq_true rfl)) hl.1 dLaw_law_2338 ⟨Nat.le_trans (Nat.add_le_add_left (Nat.le_of_ble_eq_true rfl) _) hcl, Nat.le_trans (Nat.add_le_add_left (Nat.le_of_ble_eq_true rfl) _) hsl⟩ (fun α1 H1 locs1 J1 => ?_)
  refine lv_istore (lv' := [(6, .int (nI (lK j r))), (0, .ref b), (1, .ref (α0 0 0)), (2, .ref (μ 0)), (3, .ref bo), (4, .ref bd), (5, .int (nI i))]) hx hb dLaw_law_2341 hl (by decide) rfl (fun ls hl => ?_)
  refine lv_aload_n hx hb dLaw_law_2343 rfl (lv_at hl 3 rfl) ?_
  refine l_arg (i := i) (k := 1) X J1.2.2.2.1 hL (by omega) (by decide) (lv_at hl 1 rfl) (lv_at hl 6 rfl) dLaw_law_2344 dLaw_law_2345 dLaw_law_2347 dLaw_law_2348 dLaw_law_2349 ?_
  refine l_modI (As := [.int (xs (i + 1))]) (rest := []) X J1 (cm_rare l Dm cm μ (lB lo hm) τ (xs (i + 1)) (v, τ2) hfm) mwl_rare ⟨rfl, rfl⟩ ⟨Nat.le_of_ble_eq_true rfl, Nat.le_of_ble_eq_true rfl⟩ rfl rfl (cats_le _ (Nat.le_of_ble_eq_true rfl)) hl.1 dLaw_law_2350 ⟨Nat.le_trans (Nat.add_le_add_left (Nat.le_of_ble_eq_true rfl) _) hcl, Nat.le_trans (Nat.add_le_add_left (Nat.le_of_ble_eq_true rfl) _) hsl⟩ (fun H2 locs2 J2 => ?_)
  refine lv_istore (lv' := [(7, .int v), (6, .int (nI (lK j r))), (0, .ref b), (1, .ref (α0 0 0)), (2, .ref (μ 0)), (3, .ref bo), (4, .ref bd), (5, .int (nI i))]) hx hb dLaw_law_2353 hl (by decide) rfl (fun ls hl => ?_)
  refine lv_aload_n hx hb dLaw_law_2355 rfl (lv_at hl 4 rfl) ?_
  refine l_modI (As := []) (rest := []) X J2 (cm_thrown l Dm cm μ (lB lo hm) τ2 (τ2.1 0, τ2) rfl) mwl_thrown ⟨rfl, rfl⟩ ⟨Nat.le_of_ble_eq_true rfl, Nat.le_of_ble_eq_true rfl⟩ rfl rfl (cats_le _ (Nat.le_of_ble_eq_true rfl)) hl.1 dLaw_law_2356 ⟨Nat.le_trans (Nat.add_le_add_left (Nat.le_of_ble_eq_true rfl) _) hcl, Nat.le_trans (Nat.add_le_add_left (Nat.le_of_ble_eq_true rfl) _) hsl⟩ (fun H3 locs3 J3 => ?_)
  refine lv_iload hx hb dLaw_law_2359 (lv_at hl 1 rfl) ?_
  refine lv_icmp_eq (tgt := 2366) hx hb dLaw_law_2361 (by decide) (fun _ => ?_) (fun q => absurd hth q)
  refine lv_iload hx hb dLaw_law_2366 (lv_at hl 1 rfl) ?_
  have fin : W p l e room_1 s m #[Value.ref b] below meth c H3 locs3 (cells + 12) (slots + 700) Q (F0 m 3212 ls []) := kk g1 σ1 τ2 α1 _ fd H3 locs3 ls hR1 J3 (lv_sub hl [2, 3, 4, 5, 6, 7] rfl)
  refine W.widen (k := cells + 12) (n := slots + 700) (Nat.add_le_add_left (Nat.le_of_ble_eq_true rfl) _) (Nat.add_le_add_left (Nat.le_of_ble_eq_true rfl) _) ?_
  refine lv_if_ne (tgt := 2383) hx hb dLaw_law_2368 (by decide) (fun q => ?_) (fun q => ?_)
  · refine lv_goto (tgt := 3212) hx hb dLaw_law_2383 (by decide) ?_
    exact fin
  · rcases hrr with ⟨k0, rfl⟩ | ⟨k0, k1⟩
    · refine lv_aload_n hx hb dLaw_law_2371 rfl (lv_at hl 5 rfl) ?_
      refine lv_iconst (v := (0 : Int32)) hx hb dLaw_law_2372 (by decide) ?_
      refine va_lald hx hb X.2.2.1.2.2.1 J3.2.2.1.1 0 0 rfl rfl vp01 dLaw_law_2373 ?_
      refine lv_iload hx hb dLaw_law_2374 (lv_at hl 0 rfl) ?_
      refine lv_i2l hx hb dLaw_law_2376 rfl ?_
      refine W.lcmp hx hb dLaw_law_2377 ?_
      refine lv_if_eq (tgt := 2383) hx hb dLaw_law_2378 (by decide) (fun _ => ?_) (fun q => absurd (lg0.mpr (rfl)) q)
      refine lv_goto (tgt := 3212) hx hb dLaw_law_2383 (by decide) ?_
      exact fin
    · exact absurd q (nz_k k0 k1)
theorem lw_price : lCallS 314 yLaw_price cLaw_price 4 (lHh [4, 2, 3] 9 (fun j => ([12, 15, 18] : List Nat).getD j 0)) 3 := ⟨⟨wl_in (i := 1399) (by decide +kernel), wl_in (i := 1400) (by decide +kernel), wl_in (i := 0) (by decide +kernel), wl_in (i := 1401) (by decide +kernel)⟩, by decide, by decide, by decide +kernel⟩
theorem mwl_price : cCallV RV 316 RX12 yX12_price cX12_price 2 (some .int) 1 := ⟨⟨wl_in (i := 2325) (by decide +kernel), wl_in (i := 2326) (by decide +kernel), wl_in (i := 2327) (by decide +kernel), wl_in (i := 16) (by decide +kernel), wl_in (i := 2328) (by decide +kernel)⟩, rfl, by decide, by decide, by decide +kernel⟩
set_option maxHeartbeats 4000000 in
set_option maxRecDepth 100000 in
theorem lc_price {p : Program} {l : Launch} {e : Env} {s : State} {m : MethodId} {below : List Frame} {meth : Method} {c : Code} {H : Heap} {locs : List Loc} {cells slots : Nat} {Q : State → Prop} {b L : Nat} {xs : Nat → Int32} {ls : Array Slot} {D Dm : va_G} {ca cm : Nat → ClassId} {cO cOd : ClassId} {α0 α : cAl} {lo hm hi bo bd : Nat} {μ : Nat → Nat} {g : Gm} {σ : cS} {τ : mS} {f : Nat → Int64} {fd : Nat → UInt64} {i : Nat} (hst : l.stackTraces = false) (hL : L ≤ 2560) (X : lX p s m c b L xs D Dm ca cm cO cOd α0 lo hm hi bo bd) (J : lJ s D Dm ca cm cO cOd α0 lo hm hi bo bd μ σ τ α f fd H locs) (hR : Rel g σ τ) (h5 : i + 5 ≤ L) (hl : lv_has ls 9 [(0, .ref b), (1, .ref (α0 0 0)), (2, .ref (μ 0)), (3, .ref bo), (4, .ref bd), (5, .int (nI i))]) (hcl : cells + 12 ≤ room_1.cells) (hsl : slots + 700 ≤ room_1.slots)
    (kk : ∀ (g' : Gm) (σ' : cS) (τ' : mS) (α' : cAl) (f' : Nat → Int64) (fd' : Nat → UInt64) (H' : Heap) (locs' : List Loc) (ls' : Array Slot), Rel g' σ' τ' → lJ s D Dm ca cm cO cOd α0 lo hm hi bo bd μ σ' τ' α' f' fd' H' locs' → lv_has ls' 9 [(0, .ref b), (1, .ref (α0 0 0)), (2, .ref (μ 0)), (3, .ref bo), (4, .ref bd), (5, .int (nI i))] → W p l e room_1 s m #[Value.ref b] below meth c H' locs' (cells + 12) (slots + 700) Q (F0 m 3212 ls' [])) :
    W p l e room_1 s m #[Value.ref b] below meth c H locs cells slots Q (F0 m 2386 ls []) := by
  obtain ⟨hx, hb, -, -, -⟩ := id X.1
  obtain ⟨hbo, -⟩ := l_nbo X
  obtain ⟨h17, -⟩ := l_n17 X J
  obtain ⟨g1, r, σ1, v, τ2, hfc, hfm, hagr, hR1⟩ := meth_price hR (xs (i + 1))
  obtain ⟨j, hj1, hth, hrr⟩ := hagr.use (by decide)
  refine lv_aload_n hx hb dLaw_law_2386 rfl (lv_at hl 1 rfl) ?_
  refine l_arg (i := i) (k := 1) X J.2.2.2.1 hL (by omega) (by decide) (lv_at hl 0 rfl) (lv_at hl 5 rfl) dLaw_law_2387 dLaw_law_2388 dLaw_law_2390 dLaw_law_2391 dLaw_law_2392 ?_
  refine lv_aload_n hx hb dLaw_law_2393 rfl (lv_at hl 3 rfl) ?_
  refine l_wr (As := [.int (xs (i + 1)), .ref bo]) (rest := []) X J (cv_price l hst D ca (lA s.heap.size lo hi) bo cO α σ f hbo h17 (xs (i + 1)) (r, σ1) hfc j hj1) lw_price ⟨rfl, rfl⟩ ⟨Nat.le_of_ble_eq_true rfl, Nat.le_of_ble_eq_true rfl⟩ rfl rfl (cats_le _ (Nat.le_of_ble_eq_true rfl)) hl.1 dLaw_law_2394 ⟨Nat.le_trans (Nat.add_le_add_left (Nat.le_of_ble_eq_true rfl) _) hcl, Nat.le_trans (Nat.add_le_add_left (Nat.le_of_ble_eq_true rfl) _) hsl⟩ (fun α1 H1 locs1 J1 => ?_)
  refine lv_istore (lv' := [(6, .int (nI (lK j r))), (0, .ref b), (1, .ref (α0 0 0)), (2, .ref (μ 0)), (3, .ref bo), (4, .ref bd), (5, .int (nI i))]) hx hb dLaw_law_2397 hl (by decide) rfl (fun ls hl => ?_)
  refine lv_aload_n hx hb dLaw_law_2399 rfl (lv_at hl 3 rfl) ?_
  refine l_arg (i := i) (k := 1) X J1.2.2.2.1 hL (by omega) (by decide) (lv_at hl 1 rfl) (lv_at hl 6 rfl) dLaw_law_2400 dLaw_law_2401 dLaw_law_2403 dLaw_law_2404 dLaw_law_2405 ?_
  refine l_modI (As := [.int (xs (i + 1))]) (rest := []) X J1 (cm_price l Dm cm μ (lB lo hm) τ (xs (i + 1)) (v, τ2) hfm) mwl_price ⟨rfl, rfl⟩ ⟨Nat.le_of_ble_eq_true rfl, Nat.le_of_ble_eq_true rfl⟩ rfl rfl (cats_le _ (Nat.le_of_ble_eq_true rfl)) hl.1 dLaw_law_2406 ⟨Nat.le_trans (Nat.add_le_add_left (Nat.le_of_ble_eq_true rfl) _) hcl, Nat.le_trans (Nat.add_le_add_left (Nat.le_of_ble_eq_true rfl) _) hsl⟩ (fun H2 locs2 J2 => ?_)
  refine lv_istore (lv' := [(7, .int v), (6, .int (nI (lK j r))), (0, .ref b), (1, .ref (α0 0 0)), (2, .ref (μ 0)), (3, .ref bo), (4, .ref bd), (5, .int (nI i))]) hx hb dLaw_law_2409 hl (by decide) rfl (fun ls hl => ?_)
  refine lv_aload_n hx hb dLaw_law_2411 rfl (lv_at hl 4 rfl) ?_
  refine l_modI (As := []) (rest := []) X J2 (cm_thrown l Dm cm μ (lB lo hm) τ2 (τ2.1 0, τ2) rfl) mwl_thrown ⟨rfl, rfl⟩ ⟨Nat.le_of_ble_eq_true rfl, Nat.le_of_ble_eq_true rfl⟩ rfl rfl (cats_le _ (Nat.le_of_ble_eq_true rfl)) hl.1 dLaw_law_2412 ⟨Nat.le_trans (Nat.add_le_add_left (Nat.le_of_ble_eq_true rfl) _) hcl, Nat.le_trans (Nat.add_le_add_left (Nat.le_of_ble_eq_true rfl) _) hsl⟩ (fun H3 locs3 J3 => ?_)
  refine lv_iload hx hb dLaw_law_2415 (lv_at hl 1 rfl) ?_
  refine lv_icmp_eq (tgt := 2422) hx hb dLaw_law_2417 (by decide) (fun _ => ?_) (fun q => absurd hth q)
  refine lv_iload hx hb dLaw_law_2422 (lv_at hl 1 rfl) ?_
  have fin : W p l e room_1 s m #[Value.ref b] below meth c H3 locs3 (cells + 12) (slots + 700) Q (F0 m 3212 ls []) := kk g1 σ1 τ2 α1 _ fd H3 locs3 ls hR1 J3 (lv_sub hl [2, 3, 4, 5, 6, 7] rfl)
  refine W.widen (k := cells + 12) (n := slots + 700) (Nat.add_le_add_left (Nat.le_of_ble_eq_true rfl) _) (Nat.add_le_add_left (Nat.le_of_ble_eq_true rfl) _) ?_
  refine lv_if_ne (tgt := 2439) hx hb dLaw_law_2424 (by decide) (fun q => ?_) (fun q => ?_)
  · refine lv_goto (tgt := 3212) hx hb dLaw_law_2439 (by decide) ?_
    exact fin
  · rcases hrr with ⟨k0, rfl⟩ | ⟨k0, k1⟩
    · refine lv_aload_n hx hb dLaw_law_2427 rfl (lv_at hl 5 rfl) ?_
      refine lv_iconst (v := (0 : Int32)) hx hb dLaw_law_2428 (by decide) ?_
      refine va_lald hx hb X.2.2.1.2.2.1 J3.2.2.1.1 0 0 rfl rfl vp01 dLaw_law_2429 ?_
      refine lv_iload hx hb dLaw_law_2430 (lv_at hl 0 rfl) ?_
      refine lv_i2l hx hb dLaw_law_2432 rfl ?_
      refine W.lcmp hx hb dLaw_law_2433 ?_
      refine lv_if_eq (tgt := 2439) hx hb dLaw_law_2434 (by decide) (fun _ => ?_) (fun q => absurd (lg0.mpr (rfl)) q)
      refine lv_goto (tgt := 3212) hx hb dLaw_law_2439 (by decide) ?_
      exact fin
    · exact absurd q (nz_k k0 k1)
theorem lw_buy : lCallS 317 yLaw_buy cLaw_buy 4 (lHh [4, 2, 3, 5] 9 (fun j => ([12, 15, 18, 21] : List Nat).getD j 0)) 3 := ⟨⟨wl_in (i := 1426) (by decide +kernel), wl_in (i := 1427) (by decide +kernel), wl_in (i := 0) (by decide +kernel), wl_in (i := 1428) (by decide +kernel)⟩, by decide, by decide, by decide +kernel⟩
theorem mwl_buy : cCallV RV 319 RX12 yX12_buy cX12_buy 3 (some .int) 1 := ⟨⟨wl_in (i := 2341) (by decide +kernel), wl_in (i := 2342) (by decide +kernel), wl_in (i := 2343) (by decide +kernel), wl_in (i := 16) (by decide +kernel), wl_in (i := 2344) (by decide +kernel)⟩, rfl, by decide, by decide, by decide +kernel⟩
set_option maxHeartbeats 4000000 in
set_option maxRecDepth 100000 in
theorem lc_buy {p : Program} {l : Launch} {e : Env} {s : State} {m : MethodId} {below : List Frame} {meth : Method} {c : Code} {H : Heap} {locs : List Loc} {cells slots : Nat} {Q : State → Prop} {b L : Nat} {xs : Nat → Int32} {ls : Array Slot} {D Dm : va_G} {ca cm : Nat → ClassId} {cO cOd : ClassId} {α0 α : cAl} {lo hm hi bo bd : Nat} {μ : Nat → Nat} {g : Gm} {σ : cS} {τ : mS} {f : Nat → Int64} {fd : Nat → UInt64} {i : Nat} (hst : l.stackTraces = false) (hL : L ≤ 2560) (X : lX p s m c b L xs D Dm ca cm cO cOd α0 lo hm hi bo bd) (J : lJ s D Dm ca cm cO cOd α0 lo hm hi bo bd μ σ τ α f fd H locs) (hR : Rel g σ τ) (h5 : i + 5 ≤ L) (hl : lv_has ls 9 [(0, .ref b), (1, .ref (α0 0 0)), (2, .ref (μ 0)), (3, .ref bo), (4, .ref bd), (5, .int (nI i))]) (hcl : cells + 12 ≤ room_1.cells) (hsl : slots + 700 ≤ room_1.slots)
    (kk : ∀ (g' : Gm) (σ' : cS) (τ' : mS) (α' : cAl) (f' : Nat → Int64) (fd' : Nat → UInt64) (H' : Heap) (locs' : List Loc) (ls' : Array Slot), Rel g' σ' τ' → lJ s D Dm ca cm cO cOd α0 lo hm hi bo bd μ σ' τ' α' f' fd' H' locs' → lv_has ls' 9 [(0, .ref b), (1, .ref (α0 0 0)), (2, .ref (μ 0)), (3, .ref bo), (4, .ref bd), (5, .int (nI i))] → W p l e room_1 s m #[Value.ref b] below meth c H' locs' (cells + 12) (slots + 700) Q (F0 m 3212 ls' [])) :
    W p l e room_1 s m #[Value.ref b] below meth c H locs cells slots Q (F0 m 2442 ls []) := by
  obtain ⟨hx, hb, -, -, -⟩ := id X.1
  obtain ⟨hbo, -⟩ := l_nbo X
  obtain ⟨h17, -⟩ := l_n17 X J
  obtain ⟨g1, r, σ1, v, τ2, hfc, hfm, hagr, hR1⟩ := meth_buy hR (xs (i + 1))
  obtain ⟨j, hj1, hth, hrr⟩ := hagr.use (by decide)
  refine lv_aload_n hx hb dLaw_law_2442 rfl (lv_at hl 1 rfl) ?_
  refine l_arg (i := i) (k := 1) X J.2.2.2.1 hL (by omega) (by decide) (lv_at hl 0 rfl) (lv_at hl 5 rfl) dLaw_law_2443 dLaw_law_2444 dLaw_law_2446 dLaw_law_2447 dLaw_law_2448 ?_
  refine lv_aload_n hx hb dLaw_law_2449 rfl (lv_at hl 3 rfl) ?_
  refine l_wr (As := [.int (xs (i + 1)), .ref bo]) (rest := []) X J (cv_buy l hst D ca (lA s.heap.size lo hi) bo cO α σ f hbo h17 (xs (i + 1)) (r, σ1) hfc j hj1) lw_buy ⟨rfl, rfl⟩ ⟨Nat.le_of_ble_eq_true rfl, Nat.le_of_ble_eq_true rfl⟩ rfl rfl (cats_le _ (Nat.le_of_ble_eq_true rfl)) hl.1 dLaw_law_2450 ⟨Nat.le_trans (Nat.add_le_add_left (Nat.le_of_ble_eq_true rfl) _) hcl, Nat.le_trans (Nat.add_le_add_left (Nat.le_of_ble_eq_true rfl) _) hsl⟩ (fun α1 H1 locs1 J1 => ?_)
  refine lv_istore (lv' := [(6, .int (nI (lK j r))), (0, .ref b), (1, .ref (α0 0 0)), (2, .ref (μ 0)), (3, .ref bo), (4, .ref bd), (5, .int (nI i))]) hx hb dLaw_law_2453 hl (by decide) rfl (fun ls hl => ?_)
  refine lv_aload_n hx hb dLaw_law_2455 rfl (lv_at hl 3 rfl) ?_
  refine l_arg (i := i) (k := 1) X J1.2.2.2.1 hL (by omega) (by decide) (lv_at hl 1 rfl) (lv_at hl 6 rfl) dLaw_law_2456 dLaw_law_2457 dLaw_law_2459 dLaw_law_2460 dLaw_law_2461 ?_
  refine l_modI (As := [.int (xs (i + 1))]) (rest := []) X J1 (cm_buy l Dm cm μ (lB lo hm) τ (xs (i + 1)) (v, τ2) hfm) mwl_buy ⟨rfl, rfl⟩ ⟨Nat.le_of_ble_eq_true rfl, Nat.le_of_ble_eq_true rfl⟩ rfl rfl (cats_le _ (Nat.le_of_ble_eq_true rfl)) hl.1 dLaw_law_2462 ⟨Nat.le_trans (Nat.add_le_add_left (Nat.le_of_ble_eq_true rfl) _) hcl, Nat.le_trans (Nat.add_le_add_left (Nat.le_of_ble_eq_true rfl) _) hsl⟩ (fun H2 locs2 J2 => ?_)
  refine lv_istore (lv' := [(7, .int v), (6, .int (nI (lK j r))), (0, .ref b), (1, .ref (α0 0 0)), (2, .ref (μ 0)), (3, .ref bo), (4, .ref bd), (5, .int (nI i))]) hx hb dLaw_law_2465 hl (by decide) rfl (fun ls hl => ?_)
  refine lv_aload_n hx hb dLaw_law_2467 rfl (lv_at hl 4 rfl) ?_
  refine l_modI (As := []) (rest := []) X J2 (cm_thrown l Dm cm μ (lB lo hm) τ2 (τ2.1 0, τ2) rfl) mwl_thrown ⟨rfl, rfl⟩ ⟨Nat.le_of_ble_eq_true rfl, Nat.le_of_ble_eq_true rfl⟩ rfl rfl (cats_le _ (Nat.le_of_ble_eq_true rfl)) hl.1 dLaw_law_2468 ⟨Nat.le_trans (Nat.add_le_add_left (Nat.le_of_ble_eq_true rfl) _) hcl, Nat.le_trans (Nat.add_le_add_left (Nat.le_of_ble_eq_true rfl) _) hsl⟩ (fun H3 locs3 J3 => ?_)
  refine lv_iload hx hb dLaw_law_2471 (lv_at hl 1 rfl) ?_
  refine lv_icmp_eq (tgt := 2478) hx hb dLaw_law_2473 (by decide) (fun _ => ?_) (fun q => absurd hth q)
  refine lv_iload hx hb dLaw_law_2478 (lv_at hl 1 rfl) ?_
  have fin : W p l e room_1 s m #[Value.ref b] below meth c H3 locs3 (cells + 12) (slots + 700) Q (F0 m 3212 ls []) := kk g1 σ1 τ2 α1 _ fd H3 locs3 ls hR1 J3 (lv_sub hl [2, 3, 4, 5, 6, 7] rfl)
  refine W.widen (k := cells + 12) (n := slots + 700) (Nat.add_le_add_left (Nat.le_of_ble_eq_true rfl) _) (Nat.add_le_add_left (Nat.le_of_ble_eq_true rfl) _) ?_
  refine lv_if_ne (tgt := 2495) hx hb dLaw_law_2480 (by decide) (fun q => ?_) (fun q => ?_)
  · refine lv_goto (tgt := 3212) hx hb dLaw_law_2495 (by decide) ?_
    exact fin
  · rcases hrr with ⟨k0, rfl⟩ | ⟨k0, k1⟩
    · refine lv_aload_n hx hb dLaw_law_2483 rfl (lv_at hl 5 rfl) ?_
      refine lv_iconst (v := (0 : Int32)) hx hb dLaw_law_2484 (by decide) ?_
      refine va_lald hx hb X.2.2.1.2.2.1 J3.2.2.1.1 0 0 rfl rfl vp01 dLaw_law_2485 ?_
      refine lv_iload hx hb dLaw_law_2486 (lv_at hl 0 rfl) ?_
      refine lv_i2l hx hb dLaw_law_2488 rfl ?_
      refine W.lcmp hx hb dLaw_law_2489 ?_
      refine lv_if_eq (tgt := 2495) hx hb dLaw_law_2490 (by decide) (fun _ => ?_) (fun q => absurd (lg0.mpr (rfl)) q)
      refine lv_goto (tgt := 3212) hx hb dLaw_law_2495 (by decide) ?_
      exact fin
    · exact absurd q (nz_k k0 k1)
theorem lw_isOwned : lCallS 320 yLaw_isOwned cLaw_isOwned 4 (lHh [4, 2] 16 (fun j => ([19, 22] : List Nat).getD j 0)) 3 := ⟨⟨wl_in (i := 1461) (by decide +kernel), wl_in (i := 1462) (by decide +kernel), wl_in (i := 0) (by decide +kernel), wl_in (i := 1463) (by decide +kernel)⟩, by decide, by decide, by decide +kernel⟩
theorem mwl_isOwned : cCallV RV 322 RX12 yX12_isOwned cX12_isOwned 2 (some .boolean) 1 := ⟨⟨wl_in (i := 2345) (by decide +kernel), wl_in (i := 2346) (by decide +kernel), wl_in (i := 2347) (by decide +kernel), wl_in (i := 16) (by decide +kernel), wl_in (i := 2348) (by decide +kernel)⟩, rfl, by decide, by decide, by decide +kernel⟩
set_option maxHeartbeats 4000000 in
set_option maxRecDepth 100000 in
theorem lc_isOwned {p : Program} {l : Launch} {e : Env} {s : State} {m : MethodId} {below : List Frame} {meth : Method} {c : Code} {H : Heap} {locs : List Loc} {cells slots : Nat} {Q : State → Prop} {b L : Nat} {xs : Nat → Int32} {ls : Array Slot} {D Dm : va_G} {ca cm : Nat → ClassId} {cO cOd : ClassId} {α0 α : cAl} {lo hm hi bo bd : Nat} {μ : Nat → Nat} {g : Gm} {σ : cS} {τ : mS} {f : Nat → Int64} {fd : Nat → UInt64} {i : Nat} (hst : l.stackTraces = false) (hL : L ≤ 2560) (X : lX p s m c b L xs D Dm ca cm cO cOd α0 lo hm hi bo bd) (J : lJ s D Dm ca cm cO cOd α0 lo hm hi bo bd μ σ τ α f fd H locs) (hR : Rel g σ τ) (h5 : i + 5 ≤ L) (hl : lv_has ls 9 [(0, .ref b), (1, .ref (α0 0 0)), (2, .ref (μ 0)), (3, .ref bo), (4, .ref bd), (5, .int (nI i))]) (hcl : cells + 12 ≤ room_1.cells) (hsl : slots + 700 ≤ room_1.slots)
    (kk : ∀ (g' : Gm) (σ' : cS) (τ' : mS) (α' : cAl) (f' : Nat → Int64) (fd' : Nat → UInt64) (H' : Heap) (locs' : List Loc) (ls' : Array Slot), Rel g' σ' τ' → lJ s D Dm ca cm cO cOd α0 lo hm hi bo bd μ σ' τ' α' f' fd' H' locs' → lv_has ls' 9 [(0, .ref b), (1, .ref (α0 0 0)), (2, .ref (μ 0)), (3, .ref bo), (4, .ref bd), (5, .int (nI i))] → W p l e room_1 s m #[Value.ref b] below meth c H' locs' (cells + 12) (slots + 700) Q (F0 m 3212 ls' [])) :
    W p l e room_1 s m #[Value.ref b] below meth c H locs cells slots Q (F0 m 2498 ls []) := by
  obtain ⟨hx, hb, -, -, -⟩ := id X.1
  obtain ⟨hbo, -⟩ := l_nbo X
  obtain ⟨h17, -⟩ := l_n17 X J
  obtain ⟨g1, r, σ1, v, τ2, hfc, hfm, hagr, hR1⟩ := meth_isOwned hR (xs (i + 1))
  obtain ⟨j, hj1, hth, hrr⟩ := hagr.use (by decide)
  refine lv_aload_n hx hb dLaw_law_2498 rfl (lv_at hl 1 rfl) ?_
  refine l_arg (i := i) (k := 1) X J.2.2.2.1 hL (by omega) (by decide) (lv_at hl 0 rfl) (lv_at hl 5 rfl) dLaw_law_2499 dLaw_law_2500 dLaw_law_2502 dLaw_law_2503 dLaw_law_2504 ?_
  refine lv_aload_n hx hb dLaw_law_2505 rfl (lv_at hl 3 rfl) ?_
  refine l_wr (As := [.int (xs (i + 1)), .ref bo]) (rest := []) X J (cv_isOwned l hst D ca (lA s.heap.size lo hi) bo cO α σ f hbo h17 (xs (i + 1)) (r, σ1) hfc j hj1) lw_isOwned ⟨rfl, rfl⟩ ⟨Nat.le_of_ble_eq_true rfl, Nat.le_of_ble_eq_true rfl⟩ rfl rfl (cats_le _ (Nat.le_of_ble_eq_true rfl)) hl.1 dLaw_law_2506 ⟨Nat.le_trans (Nat.add_le_add_left (Nat.le_of_ble_eq_true rfl) _) hcl, Nat.le_trans (Nat.add_le_add_left (Nat.le_of_ble_eq_true rfl) _) hsl⟩ (fun α1 H1 locs1 J1 => ?_)
  refine lv_istore (lv' := [(6, .int (nI (lK j r))), (0, .ref b), (1, .ref (α0 0 0)), (2, .ref (μ 0)), (3, .ref bo), (4, .ref bd), (5, .int (nI i))]) hx hb dLaw_law_2509 hl (by decide) rfl (fun ls hl => ?_)
  refine lv_aload_n hx hb dLaw_law_2511 rfl (lv_at hl 3 rfl) ?_
  refine l_arg (i := i) (k := 1) X J1.2.2.2.1 hL (by omega) (by decide) (lv_at hl 1 rfl) (lv_at hl 6 rfl) dLaw_law_2512 dLaw_law_2513 dLaw_law_2515 dLaw_law_2516 dLaw_law_2517 ?_
  refine l_modI (As := [.int (xs (i + 1))]) (rest := []) X J1 (cm_isOwned l Dm cm μ (lB lo hm) τ (xs (i + 1)) (v, τ2) hfm) mwl_isOwned ⟨rfl, rfl⟩ ⟨Nat.le_of_ble_eq_true rfl, Nat.le_of_ble_eq_true rfl⟩ rfl rfl (cats_le _ (Nat.le_of_ble_eq_true rfl)) hl.1 dLaw_law_2518 ⟨Nat.le_trans (Nat.add_le_add_left (Nat.le_of_ble_eq_true rfl) _) hcl, Nat.le_trans (Nat.add_le_add_left (Nat.le_of_ble_eq_true rfl) _) hsl⟩ (fun H2 locs2 J2 => ?_)
  refine lv_istore (lv' := [(7, .int v), (6, .int (nI (lK j r))), (0, .ref b), (1, .ref (α0 0 0)), (2, .ref (μ 0)), (3, .ref bo), (4, .ref bd), (5, .int (nI i))]) hx hb dLaw_law_2521 hl (by decide) rfl (fun ls hl => ?_)
  refine lv_aload_n hx hb dLaw_law_2523 rfl (lv_at hl 4 rfl) ?_
  refine l_modI (As := []) (rest := []) X J2 (cm_thrown l Dm cm μ (lB lo hm) τ2 (τ2.1 0, τ2) rfl) mwl_thrown ⟨rfl, rfl⟩ ⟨Nat.le_of_ble_eq_true rfl, Nat.le_of_ble_eq_true rfl⟩ rfl rfl (cats_le _ (Nat.le_of_ble_eq_true rfl)) hl.1 dLaw_law_2524 ⟨Nat.le_trans (Nat.add_le_add_left (Nat.le_of_ble_eq_true rfl) _) hcl, Nat.le_trans (Nat.add_le_add_left (Nat.le_of_ble_eq_true rfl) _) hsl⟩ (fun H3 locs3 J3 => ?_)
  refine lv_iload hx hb dLaw_law_2527 (lv_at hl 1 rfl) ?_
  refine lv_icmp_eq (tgt := 2534) hx hb dLaw_law_2529 (by decide) (fun _ => ?_) (fun q => absurd hth q)
  refine lv_iload hx hb dLaw_law_2534 (lv_at hl 1 rfl) ?_
  have fin : W p l e room_1 s m #[Value.ref b] below meth c H3 locs3 (cells + 12) (slots + 700) Q (F0 m 3212 ls []) := kk g1 σ1 τ2 α1 _ fd H3 locs3 ls hR1 J3 (lv_sub hl [2, 3, 4, 5, 6, 7] rfl)
  refine W.widen (k := cells + 12) (n := slots + 700) (Nat.add_le_add_left (Nat.le_of_ble_eq_true rfl) _) (Nat.add_le_add_left (Nat.le_of_ble_eq_true rfl) _) ?_
  refine lv_if_ne (tgt := 2558) hx hb dLaw_law_2536 (by decide) (fun q => ?_) (fun q => ?_)
  · refine lv_goto (tgt := 3212) hx hb dLaw_law_2558 (by decide) ?_
    exact fin
  · rcases hrr with ⟨k0, rfl⟩ | ⟨k0, k1⟩
    · refine lv_aload_n hx hb dLaw_law_2539 rfl (lv_at hl 5 rfl) ?_
      refine lv_iconst (v := (0 : Int32)) hx hb dLaw_law_2540 (by decide) ?_
      refine va_lald hx hb X.2.2.1.2.2.1 J3.2.2.1.1 0 0 rfl rfl vp01 dLaw_law_2541 ?_
      refine lv_iload hx hb dLaw_law_2542 (lv_at hl 0 rfl) ?_
      refine lv_if_eq (tgt := 2551) hx hb dLaw_law_2544 (by decide) (fun q1 => ?_) (fun q1 => ?_)
      · refine lv_lconst (v := (0 : Int64)) hx hb dLaw_law_2551 (by decide) ?_
        refine W.lcmp hx hb dLaw_law_2552 ?_
        refine lv_if_eq (tgt := 2558) hx hb dLaw_law_2553 (by decide) (fun _ => ?_) (fun q => absurd (lg0.mpr (show (if v = 0 then (0 : Int64) else 1) = 0 from if_pos q1)) q)
        refine lv_goto (tgt := 3212) hx hb dLaw_law_2558 (by decide) ?_
        exact fin
      · refine lv_lconst (v := (1 : Int64)) hx hb dLaw_law_2547 (by decide) ?_
        refine lv_goto (tgt := 2552) hx hb dLaw_law_2548 (by decide) ?_
        refine W.lcmp hx hb dLaw_law_2552 ?_
        refine lv_if_eq (tgt := 2558) hx hb dLaw_law_2553 (by decide) (fun _ => ?_) (fun q => absurd (lg0.mpr (show (if v = 0 then (0 : Int64) else 1) = 1 from if_neg q1)) q)
        refine lv_goto (tgt := 3212) hx hb dLaw_law_2558 (by decide) ?_
        exact fin
    · exact absurd q (nz_k k0 k1)
theorem lw_read : lCallS 323 yLaw_read cLaw_read 4 (lHh [4, 2, 3] 9 (fun j => ([12, 15, 18] : List Nat).getD j 0)) 3 := ⟨⟨wl_in (i := 1468) (by decide +kernel), wl_in (i := 1469) (by decide +kernel), wl_in (i := 0) (by decide +kernel), wl_in (i := 1470) (by decide +kernel)⟩, by decide, by decide, by decide +kernel⟩
theorem mwl_read : cCallV RV 325 RX12 yX12_read cX12_read 3 (some .int) 1 := ⟨⟨wl_in (i := 2349) (by decide +kernel), wl_in (i := 2350) (by decide +kernel), wl_in (i := 2351) (by decide +kernel), wl_in (i := 16) (by decide +kernel), wl_in (i := 2352) (by decide +kernel)⟩, rfl, by decide, by decide, by decide +kernel⟩
set_option maxHeartbeats 4000000 in
set_option maxRecDepth 100000 in
theorem lc_read {p : Program} {l : Launch} {e : Env} {s : State} {m : MethodId} {below : List Frame} {meth : Method} {c : Code} {H : Heap} {locs : List Loc} {cells slots : Nat} {Q : State → Prop} {b L : Nat} {xs : Nat → Int32} {ls : Array Slot} {D Dm : va_G} {ca cm : Nat → ClassId} {cO cOd : ClassId} {α0 α : cAl} {lo hm hi bo bd : Nat} {μ : Nat → Nat} {g : Gm} {σ : cS} {τ : mS} {f : Nat → Int64} {fd : Nat → UInt64} {i : Nat} (hst : l.stackTraces = false) (hL : L ≤ 2560) (X : lX p s m c b L xs D Dm ca cm cO cOd α0 lo hm hi bo bd) (J : lJ s D Dm ca cm cO cOd α0 lo hm hi bo bd μ σ τ α f fd H locs) (hR : Rel g σ τ) (h5 : i + 5 ≤ L) (hl : lv_has ls 9 [(0, .ref b), (1, .ref (α0 0 0)), (2, .ref (μ 0)), (3, .ref bo), (4, .ref bd), (5, .int (nI i))]) (hcl : cells + 12 ≤ room_1.cells) (hsl : slots + 700 ≤ room_1.slots)
    (kk : ∀ (g' : Gm) (σ' : cS) (τ' : mS) (α' : cAl) (f' : Nat → Int64) (fd' : Nat → UInt64) (H' : Heap) (locs' : List Loc) (ls' : Array Slot), Rel g' σ' τ' → lJ s D Dm ca cm cO cOd α0 lo hm hi bo bd μ σ' τ' α' f' fd' H' locs' → lv_has ls' 9 [(0, .ref b), (1, .ref (α0 0 0)), (2, .ref (μ 0)), (3, .ref bo), (4, .ref bd), (5, .int (nI i))] → W p l e room_1 s m #[Value.ref b] below meth c H' locs' (cells + 12) (slots + 700) Q (F0 m 3212 ls' [])) :
    W p l e room_1 s m #[Value.ref b] below meth c H locs cells slots Q (F0 m 2561 ls []) := by
  obtain ⟨hx, hb, -, -, -⟩ := id X.1
  obtain ⟨hbo, -⟩ := l_nbo X
  obtain ⟨h17, -⟩ := l_n17 X J
  obtain ⟨g1, r, σ1, v, τ2, hfc, hfm, hagr, hR1⟩ := meth_read hR (xs (i + 1))
  obtain ⟨j, hj1, hth, hrr⟩ := hagr.use (by decide)
  refine lv_aload_n hx hb dLaw_law_2561 rfl (lv_at hl 1 rfl) ?_
  refine l_arg (i := i) (k := 1) X J.2.2.2.1 hL (by omega) (by decide) (lv_at hl 0 rfl) (lv_at hl 5 rfl) dLaw_law_2562 dLaw_law_2563 dLaw_law_2565 dLaw_law_2566 dLaw_law_2567 ?_
  refine lv_aload_n hx hb dLaw_law_2568 rfl (lv_at hl 3 rfl) ?_
  refine l_wr (As := [.int (xs (i + 1)), .ref bo]) (rest := []) X J (cv_read l hst D ca (lA s.heap.size lo hi) bo cO α σ f hbo h17 (xs (i + 1)) (r, σ1) hfc j hj1) lw_read ⟨rfl, rfl⟩ ⟨Nat.le_of_ble_eq_true rfl, Nat.le_of_ble_eq_true rfl⟩ rfl rfl (cats_le _ (Nat.le_of_ble_eq_true rfl)) hl.1 dLaw_law_2569 ⟨Nat.le_trans (Nat.add_le_add_left (Nat.le_of_ble_eq_true rfl) _) hcl, Nat.le_trans (Nat.add_le_add_left (Nat.le_of_ble_eq_true rfl) _) hsl⟩ (fun α1 H1 locs1 J1 => ?_)
  refine lv_istore (lv' := [(6, .int (nI (lK j r))), (0, .ref b), (1, .ref (α0 0 0)), (2, .ref (μ 0)), (3, .ref bo), (4, .ref bd), (5, .int (nI i))]) hx hb dLaw_law_2572 hl (by decide) rfl (fun ls hl => ?_)
  refine lv_aload_n hx hb dLaw_law_2574 rfl (lv_at hl 3 rfl) ?_
  refine l_arg (i := i) (k := 1) X J1.2.2.2.1 hL (by omega) (by decide) (lv_at hl 1 rfl) (lv_at hl 6 rfl) dLaw_law_2575 dLaw_law_2576 dLaw_law_2578 dLaw_law_2579 dLaw_law_2580 ?_
  refine l_modI (As := [.int (xs (i + 1))]) (rest := []) X J1 (cm_read l Dm cm μ (lB lo hm) τ (xs (i + 1)) (v, τ2) hfm) mwl_read ⟨rfl, rfl⟩ ⟨Nat.le_of_ble_eq_true rfl, Nat.le_of_ble_eq_true rfl⟩ rfl rfl (cats_le _ (Nat.le_of_ble_eq_true rfl)) hl.1 dLaw_law_2581 ⟨Nat.le_trans (Nat.add_le_add_left (Nat.le_of_ble_eq_true rfl) _) hcl, Nat.le_trans (Nat.add_le_add_left (Nat.le_of_ble_eq_true rfl) _) hsl⟩ (fun H2 locs2 J2 => ?_)
  refine lv_istore (lv' := [(7, .int v), (6, .int (nI (lK j r))), (0, .ref b), (1, .ref (α0 0 0)), (2, .ref (μ 0)), (3, .ref bo), (4, .ref bd), (5, .int (nI i))]) hx hb dLaw_law_2584 hl (by decide) rfl (fun ls hl => ?_)
  refine lv_aload_n hx hb dLaw_law_2586 rfl (lv_at hl 4 rfl) ?_
  refine l_modI (As := []) (rest := []) X J2 (cm_thrown l Dm cm μ (lB lo hm) τ2 (τ2.1 0, τ2) rfl) mwl_thrown ⟨rfl, rfl⟩ ⟨Nat.le_of_ble_eq_true rfl, Nat.le_of_ble_eq_true rfl⟩ rfl rfl (cats_le _ (Nat.le_of_ble_eq_true rfl)) hl.1 dLaw_law_2587 ⟨Nat.le_trans (Nat.add_le_add_left (Nat.le_of_ble_eq_true rfl) _) hcl, Nat.le_trans (Nat.add_le_add_left (Nat.le_of_ble_eq_true rfl) _) hsl⟩ (fun H3 locs3 J3 => ?_)
  refine lv_iload hx hb dLaw_law_2590 (lv_at hl 1 rfl) ?_
  refine lv_icmp_eq (tgt := 2597) hx hb dLaw_law_2592 (by decide) (fun _ => ?_) (fun q => absurd hth q)
  refine lv_iload hx hb dLaw_law_2597 (lv_at hl 1 rfl) ?_
  have fin : W p l e room_1 s m #[Value.ref b] below meth c H3 locs3 (cells + 12) (slots + 700) Q (F0 m 3212 ls []) := kk g1 σ1 τ2 α1 _ fd H3 locs3 ls hR1 J3 (lv_sub hl [2, 3, 4, 5, 6, 7] rfl)
  refine W.widen (k := cells + 12) (n := slots + 700) (Nat.add_le_add_left (Nat.le_of_ble_eq_true rfl) _) (Nat.add_le_add_left (Nat.le_of_ble_eq_true rfl) _) ?_
  refine lv_if_ne (tgt := 2614) hx hb dLaw_law_2599 (by decide) (fun q => ?_) (fun q => ?_)
  · refine lv_goto (tgt := 3212) hx hb dLaw_law_2614 (by decide) ?_
    exact fin
  · rcases hrr with ⟨k0, rfl⟩ | ⟨k0, k1⟩
    · refine lv_aload_n hx hb dLaw_law_2602 rfl (lv_at hl 5 rfl) ?_
      refine lv_iconst (v := (0 : Int32)) hx hb dLaw_law_2603 (by decide) ?_
      refine va_lald hx hb X.2.2.1.2.2.1 J3.2.2.1.1 0 0 rfl rfl vp01 dLaw_law_2604 ?_
      refine lv_iload hx hb dLaw_law_2605 (lv_at hl 0 rfl) ?_
      refine lv_i2l hx hb dLaw_law_2607 rfl ?_
      refine W.lcmp hx hb dLaw_law_2608 ?_
      refine lv_if_eq (tgt := 2614) hx hb dLaw_law_2609 (by decide) (fun _ => ?_) (fun q => absurd (lg0.mpr (rfl)) q)
      refine lv_goto (tgt := 3212) hx hb dLaw_law_2614 (by decide) ?_
      exact fin
    · exact absurd q (nz_k k0 k1)
