/-! The law's cases. -/
theorem lw_hint : lCallS 235 yLaw_hint cLaw_hint 4 (lHh [1, 2] 9 (fun j => ([12, 15] : List Nat).getD j 0)) 3 := ⟨⟨wl_in (i := 895) (by decide +kernel), wl_in (i := 896) (by decide +kernel), wl_in (i := 0) (by decide +kernel), wl_in (i := 897) (by decide +kernel)⟩, by decide, by decide, by decide +kernel⟩
theorem mwl_hint : cCallV RV 238 RX12 yX12_hint cX12_hint 2 (some .int) 1 := ⟨⟨wl_in (i := 2309) (by decide +kernel), wl_in (i := 2310) (by decide +kernel), wl_in (i := 2311) (by decide +kernel), wl_in (i := 16) (by decide +kernel), wl_in (i := 2312) (by decide +kernel)⟩, rfl, by decide, by decide, by decide +kernel⟩
set_option maxHeartbeats 4000000 in
set_option maxRecDepth 100000 in
theorem lc_hint {p : Program} {l : Launch} {e : Env} {s : State} {m : MethodId} {below : List Frame} {meth : Method} {c : Code} {H : Heap} {locs : List Loc} {cells slots : Nat} {Q : State → Prop} {b L : Nat} {xs : Nat → Int32} {ls : Array Slot} {D Dm : va_G} {ca cm : Nat → ClassId} {cO cOd : ClassId} {α0 α : cAl} {lo hm hi bo bd : Nat} {μ : Nat → Nat} {g : Gm} {σ : cS} {τ : mS} {f : Nat → Int64} {fd : Nat → UInt64} {i : Nat} (hst : l.stackTraces = false) (hL : L ≤ 2560) (X : lX p s m c b L xs D Dm ca cm cO cOd α0 lo hm hi bo bd) (J : lJ s D Dm ca cm cO cOd α0 lo hm hi bo bd μ σ τ α f fd H locs) (hR : Rel g σ τ) (h5 : i + 5 ≤ L) (hl : lv_has ls 9 [(0, .ref b), (1, .ref (α0 0 0)), (2, .ref (μ 0)), (3, .ref bo), (4, .ref bd), (5, .int (nI i))]) (hcl : cells + 12 ≤ room_1.cells) (hsl : slots + 700 ≤ room_1.slots)
    (kk : ∀ (g' : Gm) (σ' : cS) (τ' : mS) (α' : cAl) (f' : Nat → Int64) (fd' : Nat → UInt64) (H' : Heap) (locs' : List Loc) (ls' : Array Slot), Rel g' σ' τ' → lJ s D Dm ca cm cO cOd α0 lo hm hi bo bd μ σ' τ' α' f' fd' H' locs' → lv_has ls' 9 [(0, .ref b), (1, .ref (α0 0 0)), (2, .ref (μ 0)), (3, .ref bo), (4, .ref bd), (5, .int (nI i))] → W p l e room_1 s m #[Value.ref b] below meth c H' locs' (cells + 12) (slots + 700) Q (F0 m 3212 ls' [])) :
    W p l e room_1 s m #[Value.ref b] below meth c H locs cells slots Q (F0 m 993 ls []) := by
  obtain ⟨hx, hb, -, -, -⟩ := id X.1
  obtain ⟨hbo, -⟩ := l_nbo X
  obtain ⟨h17, -⟩ := l_n17 X J
  obtain ⟨g1, r, σ1, v, τ2, hfc, hfm, hagr, hR1⟩ := meth_hint hR (xs (i + 1))
  obtain ⟨j, hj1, hth, hrr⟩ := hagr.use (by decide)
  refine lv_aload_n hx hb dLaw_law_993 rfl (lv_at hl 1 rfl) ?_
  refine l_arg (i := i) (k := 1) X J.2.2.2.1 hL (by omega) (by decide) (lv_at hl 0 rfl) (lv_at hl 5 rfl) dLaw_law_994 dLaw_law_995 dLaw_law_997 dLaw_law_998 dLaw_law_999 ?_
  refine lv_aload_n hx hb dLaw_law_1000 rfl (lv_at hl 3 rfl) ?_
  refine l_wr (As := [.int (xs (i + 1)), .ref bo]) (rest := []) X J (cv_hint l hst D ca (lA s.heap.size lo hi) bo cO α σ f hbo h17 (xs (i + 1)) (r, σ1) hfc j hj1) lw_hint ⟨rfl, rfl⟩ ⟨Nat.le_of_ble_eq_true rfl, Nat.le_of_ble_eq_true rfl⟩ rfl rfl (cats_le _ (Nat.le_of_ble_eq_true rfl)) hl.1 dLaw_law_1001 ⟨Nat.le_trans (Nat.add_le_add_left (Nat.le_of_ble_eq_true rfl) _) hcl, Nat.le_trans (Nat.add_le_add_left (Nat.le_of_ble_eq_true rfl) _) hsl⟩ (fun α1 H1 locs1 J1 => ?_)
  refine lv_istore (lv' := [(6, .int (nI (lK j r))), (0, .ref b), (1, .ref (α0 0 0)), (2, .ref (μ 0)), (3, .ref bo), (4, .ref bd), (5, .int (nI i))]) hx hb dLaw_law_1004 hl (by decide) rfl (fun ls hl => ?_)
  refine lv_aload_n hx hb dLaw_law_1006 rfl (lv_at hl 3 rfl) ?_
  refine l_arg (i := i) (k := 1) X J1.2.2.2.1 hL (by omega) (by decide) (lv_at hl 1 rfl) (lv_at hl 6 rfl) dLaw_law_1007 dLaw_law_1008 dLaw_law_1010 dLaw_law_1011 dLaw_law_1012 ?_
  refine l_modI (As := [.int (xs (i + 1))]) (rest := []) X J1 (cm_hint l Dm cm μ (lB lo hm) τ (xs (i + 1)) (v, τ2) hfm) mwl_hint ⟨rfl, rfl⟩ ⟨Nat.le_of_ble_eq_true rfl, Nat.le_of_ble_eq_true rfl⟩ rfl rfl (cats_le _ (Nat.le_of_ble_eq_true rfl)) hl.1 dLaw_law_1013 ⟨Nat.le_trans (Nat.add_le_add_left (Nat.le_of_ble_eq_true rfl) _) hcl, Nat.le_trans (Nat.add_le_add_left (Nat.le_of_ble_eq_true rfl) _) hsl⟩ (fun H2 locs2 J2 => ?_)
  refine lv_istore (lv' := [(7, .int v), (6, .int (nI (lK j r))), (0, .ref b), (1, .ref (α0 0 0)), (2, .ref (μ 0)), (3, .ref bo), (4, .ref bd), (5, .int (nI i))]) hx hb dLaw_law_1016 hl (by decide) rfl (fun ls hl => ?_)
  refine lv_aload_n hx hb dLaw_law_1018 rfl (lv_at hl 4 rfl) ?_
  refine l_modI (As := []) (rest := []) X J2 (cm_thrown l Dm cm μ (lB lo hm) τ2 (τ2.1 0, τ2) rfl) mwl_thrown ⟨rfl, rfl⟩ ⟨Nat.le_of_ble_eq_true rfl, Nat.le_of_ble_eq_true rfl⟩ rfl rfl (cats_le _ (Nat.le_of_ble_eq_true rfl)) hl.1 dLaw_law_1019 ⟨Nat.le_trans (Nat.add_le_add_left (Nat.le_of_ble_eq_true rfl) _) hcl, Nat.le_trans (Nat.add_le_add_left (Nat.le_of_ble_eq_true rfl) _) hsl⟩ (fun H3 locs3 J3 => ?_)
  refine lv_iload hx hb dLaw_law_1022 (lv_at hl 1 rfl) ?_
  refine lv_icmp_eq (tgt := 1029) hx hb dLaw_law_1024 (by decide) (fun _ => ?_) (fun q => absurd hth q)
  refine lv_iload hx hb dLaw_law_1029 (lv_at hl 1 rfl) ?_
  have fin : W p l e room_1 s m #[Value.ref b] below meth c H3 locs3 (cells + 12) (slots + 700) Q (F0 m 3212 ls []) := kk g1 σ1 τ2 α1 _ fd H3 locs3 ls hR1 J3 (lv_sub hl [2, 3, 4, 5, 6, 7] rfl)
  refine W.widen (k := cells + 12) (n := slots + 700) (Nat.add_le_add_left (Nat.le_of_ble_eq_true rfl) _) (Nat.add_le_add_left (Nat.le_of_ble_eq_true rfl) _) ?_
  refine lv_if_ne (tgt := 1046) hx hb dLaw_law_1031 (by decide) (fun q => ?_) (fun q => ?_)
  · refine lv_goto (tgt := 3212) hx hb dLaw_law_1046 (by decide) ?_
    exact fin
  · rcases hrr with ⟨k0, rfl⟩ | ⟨k0, k1⟩
    · refine lv_aload_n hx hb dLaw_law_1034 rfl (lv_at hl 5 rfl) ?_
      refine lv_iconst (v := (0 : Int32)) hx hb dLaw_law_1035 (by decide) ?_
      refine va_lald hx hb X.2.2.1.2.2.1 J3.2.2.1.1 0 0 rfl rfl vp01 dLaw_law_1036 ?_
      refine lv_iload hx hb dLaw_law_1037 (lv_at hl 0 rfl) ?_
      refine lv_i2l hx hb dLaw_law_1039 rfl ?_
      refine W.lcmp hx hb dLaw_law_1040 ?_
      refine lv_if_eq (tgt := 1046) hx hb dLaw_law_1041 (by decide) (fun _ => ?_) (fun q => absurd (lg0.mpr (rfl)) q)
      refine lv_goto (tgt := 3212) hx hb dLaw_law_1046 (by decide) ?_
      exact fin
    · exact absurd q (nz_k k0 k1)
theorem lw_teach : lCallS 239 yLaw_teach cLaw_teach 5 (lHh [4, 3, 2] 10 (fun j => ([13, 17, 21] : List Nat).getD j 0)) 4 := ⟨⟨wl_in (i := 904) (by decide +kernel), wl_in (i := 905) (by decide +kernel), wl_in (i := 0) (by decide +kernel), wl_in (i := 906) (by decide +kernel)⟩, by decide, by decide, by decide +kernel⟩
theorem mwl_teach : cCallV RV 241 RX12 yX12_teach cX12_teach 3 (some .int) 2 := ⟨⟨wl_in (i := 2313) (by decide +kernel), wl_in (i := 2314) (by decide +kernel), wl_in (i := 2315) (by decide +kernel), wl_in (i := 16) (by decide +kernel), wl_in (i := 2316) (by decide +kernel)⟩, rfl, by decide, by decide, by decide +kernel⟩
set_option maxHeartbeats 4000000 in
set_option maxRecDepth 100000 in
theorem lc_teach {p : Program} {l : Launch} {e : Env} {s : State} {m : MethodId} {below : List Frame} {meth : Method} {c : Code} {H : Heap} {locs : List Loc} {cells slots : Nat} {Q : State → Prop} {b L : Nat} {xs : Nat → Int32} {ls : Array Slot} {D Dm : va_G} {ca cm : Nat → ClassId} {cO cOd : ClassId} {α0 α : cAl} {lo hm hi bo bd : Nat} {μ : Nat → Nat} {g : Gm} {σ : cS} {τ : mS} {f : Nat → Int64} {fd : Nat → UInt64} {i : Nat} (hst : l.stackTraces = false) (hL : L ≤ 2560) (X : lX p s m c b L xs D Dm ca cm cO cOd α0 lo hm hi bo bd) (J : lJ s D Dm ca cm cO cOd α0 lo hm hi bo bd μ σ τ α f fd H locs) (hR : Rel g σ τ) (h5 : i + 5 ≤ L) (hl : lv_has ls 9 [(0, .ref b), (1, .ref (α0 0 0)), (2, .ref (μ 0)), (3, .ref bo), (4, .ref bd), (5, .int (nI i))]) (hcl : cells + 12 ≤ room_1.cells) (hsl : slots + 700 ≤ room_1.slots)
    (kk : ∀ (g' : Gm) (σ' : cS) (τ' : mS) (α' : cAl) (f' : Nat → Int64) (fd' : Nat → UInt64) (H' : Heap) (locs' : List Loc) (ls' : Array Slot), Rel g' σ' τ' → lJ s D Dm ca cm cO cOd α0 lo hm hi bo bd μ σ' τ' α' f' fd' H' locs' → lv_has ls' 9 [(0, .ref b), (1, .ref (α0 0 0)), (2, .ref (μ 0)), (3, .ref bo), (4, .ref bd), (5, .int (nI i))] → W p l e room_1 s m #[Value.ref b] below meth c H' locs' (cells + 12) (slots + 700) Q (F0 m 3212 ls' [])) :
    W p l e room_1 s m #[Value.ref b] below meth c H locs cells slots Q (F0 m 1049 ls []) := by
  obtain ⟨hx, hb, -, -, -⟩ := id X.1
  obtain ⟨hbo, -⟩ := l_nbo X
  obtain ⟨h17, -⟩ := l_n17 X J
  obtain ⟨g1, r, σ1, v, τ2, hfc, hfm, hagr, hR1⟩ := meth_teach hR (xs (i + 1)) (xs (i + 2))
  obtain ⟨j, hj1, hth, hrr⟩ := hagr.use (by decide)
  refine lv_aload_n hx hb dLaw_law_1049 rfl (lv_at hl 1 rfl) ?_
  refine l_arg (i := i) (k := 1) X J.2.2.2.1 hL (by omega) (by decide) (lv_at hl 0 rfl) (lv_at hl 5 rfl) dLaw_law_1050 dLaw_law_1051 dLaw_law_1053 dLaw_law_1054 dLaw_law_1055 ?_
  refine l_arg (i := i) (k := 2) X J.2.2.2.1 hL (by omega) (by decide) (lv_at hl 0 rfl) (lv_at hl 5 rfl) dLaw_law_1056 dLaw_law_1057 dLaw_law_1059 dLaw_law_1060 dLaw_law_1061 ?_
  refine lv_aload_n hx hb dLaw_law_1062 rfl (lv_at hl 3 rfl) ?_
  refine l_wr (As := [.int (xs (i + 1)), .int (xs (i + 2)), .ref bo]) (rest := []) X J (cv_teach l hst D ca (lA s.heap.size lo hi) bo cO α σ f hbo h17 (xs (i + 1)) (xs (i + 2)) (r, σ1) hfc j hj1) lw_teach ⟨rfl, rfl⟩ ⟨Nat.le_of_ble_eq_true rfl, Nat.le_of_ble_eq_true rfl⟩ rfl rfl (cats_le _ (Nat.le_of_ble_eq_true rfl)) hl.1 dLaw_law_1063 ⟨Nat.le_trans (Nat.add_le_add_left (Nat.le_of_ble_eq_true rfl) _) hcl, Nat.le_trans (Nat.add_le_add_left (Nat.le_of_ble_eq_true rfl) _) hsl⟩ (fun α1 H1 locs1 J1 => ?_)
  refine lv_istore (lv' := [(6, .int (nI (lK j r))), (0, .ref b), (1, .ref (α0 0 0)), (2, .ref (μ 0)), (3, .ref bo), (4, .ref bd), (5, .int (nI i))]) hx hb dLaw_law_1066 hl (by decide) rfl (fun ls hl => ?_)
  refine lv_aload_n hx hb dLaw_law_1068 rfl (lv_at hl 3 rfl) ?_
  refine l_arg (i := i) (k := 1) X J1.2.2.2.1 hL (by omega) (by decide) (lv_at hl 1 rfl) (lv_at hl 6 rfl) dLaw_law_1069 dLaw_law_1070 dLaw_law_1072 dLaw_law_1073 dLaw_law_1074 ?_
  refine l_arg (i := i) (k := 2) X J1.2.2.2.1 hL (by omega) (by decide) (lv_at hl 1 rfl) (lv_at hl 6 rfl) dLaw_law_1075 dLaw_law_1076 dLaw_law_1078 dLaw_law_1079 dLaw_law_1080 ?_
  refine l_modI (As := [.int (xs (i + 1)), .int (xs (i + 2))]) (rest := []) X J1 (cm_teach l Dm cm μ (lB lo hm) τ (xs (i + 1)) (xs (i + 2)) (v, τ2) hfm) mwl_teach ⟨rfl, rfl⟩ ⟨Nat.le_of_ble_eq_true rfl, Nat.le_of_ble_eq_true rfl⟩ rfl rfl (cats_le _ (Nat.le_of_ble_eq_true rfl)) hl.1 dLaw_law_1081 ⟨Nat.le_trans (Nat.add_le_add_left (Nat.le_of_ble_eq_true rfl) _) hcl, Nat.le_trans (Nat.add_le_add_left (Nat.le_of_ble_eq_true rfl) _) hsl⟩ (fun H2 locs2 J2 => ?_)
  refine lv_istore (lv' := [(7, .int v), (6, .int (nI (lK j r))), (0, .ref b), (1, .ref (α0 0 0)), (2, .ref (μ 0)), (3, .ref bo), (4, .ref bd), (5, .int (nI i))]) hx hb dLaw_law_1084 hl (by decide) rfl (fun ls hl => ?_)
  refine lv_aload_n hx hb dLaw_law_1086 rfl (lv_at hl 4 rfl) ?_
  refine l_modI (As := []) (rest := []) X J2 (cm_thrown l Dm cm μ (lB lo hm) τ2 (τ2.1 0, τ2) rfl) mwl_thrown ⟨rfl, rfl⟩ ⟨Nat.le_of_ble_eq_true rfl, Nat.le_of_ble_eq_true rfl⟩ rfl rfl (cats_le _ (Nat.le_of_ble_eq_true rfl)) hl.1 dLaw_law_1087 ⟨Nat.le_trans (Nat.add_le_add_left (Nat.le_of_ble_eq_true rfl) _) hcl, Nat.le_trans (Nat.add_le_add_left (Nat.le_of_ble_eq_true rfl) _) hsl⟩ (fun H3 locs3 J3 => ?_)
  refine lv_iload hx hb dLaw_law_1090 (lv_at hl 1 rfl) ?_
  refine lv_icmp_eq (tgt := 1097) hx hb dLaw_law_1092 (by decide) (fun _ => ?_) (fun q => absurd hth q)
  refine lv_iload hx hb dLaw_law_1097 (lv_at hl 1 rfl) ?_
  have fin : W p l e room_1 s m #[Value.ref b] below meth c H3 locs3 (cells + 12) (slots + 700) Q (F0 m 3212 ls []) := kk g1 σ1 τ2 α1 _ fd H3 locs3 ls hR1 J3 (lv_sub hl [2, 3, 4, 5, 6, 7] rfl)
  refine W.widen (k := cells + 12) (n := slots + 700) (Nat.add_le_add_left (Nat.le_of_ble_eq_true rfl) _) (Nat.add_le_add_left (Nat.le_of_ble_eq_true rfl) _) ?_
  refine lv_if_ne (tgt := 1114) hx hb dLaw_law_1099 (by decide) (fun q => ?_) (fun q => ?_)
  · refine lv_goto (tgt := 3212) hx hb dLaw_law_1114 (by decide) ?_
    exact fin
  · rcases hrr with ⟨k0, rfl⟩ | ⟨k0, k1⟩
    · refine lv_aload_n hx hb dLaw_law_1102 rfl (lv_at hl 5 rfl) ?_
      refine lv_iconst (v := (0 : Int32)) hx hb dLaw_law_1103 (by decide) ?_
      refine va_lald hx hb X.2.2.1.2.2.1 J3.2.2.1.1 0 0 rfl rfl vp01 dLaw_law_1104 ?_
      refine lv_iload hx hb dLaw_law_1105 (lv_at hl 0 rfl) ?_
      refine lv_i2l hx hb dLaw_law_1107 rfl ?_
      refine W.lcmp hx hb dLaw_law_1108 ?_
      refine lv_if_eq (tgt := 1114) hx hb dLaw_law_1109 (by decide) (fun _ => ?_) (fun q => absurd (lg0.mpr (rfl)) q)
      refine lv_goto (tgt := 3212) hx hb dLaw_law_1114 (by decide) ?_
      exact fin
    · exact absurd q (nz_k k0 k1)
theorem lw_begin : lCallS 242 yLaw_begin cLaw_begin 4 (lHh [4, 2] 9 (fun j => ([12, 15] : List Nat).getD j 0)) 3 := ⟨⟨wl_in (i := 927) (by decide +kernel), wl_in (i := 928) (by decide +kernel), wl_in (i := 0) (by decide +kernel), wl_in (i := 929) (by decide +kernel)⟩, by decide, by decide, by decide +kernel⟩
theorem mwl_begin : cCallV RV 244 RX12 yX12_begin cX12_begin 3 (some .int) 1 := ⟨⟨wl_in (i := 2094) (by decide +kernel), wl_in (i := 2095) (by decide +kernel), wl_in (i := 2096) (by decide +kernel), wl_in (i := 16) (by decide +kernel), wl_in (i := 2097) (by decide +kernel)⟩, rfl, by decide, by decide, by decide +kernel⟩
set_option maxHeartbeats 4000000 in
set_option maxRecDepth 100000 in
theorem lc_begin {p : Program} {l : Launch} {e : Env} {s : State} {m : MethodId} {below : List Frame} {meth : Method} {c : Code} {H : Heap} {locs : List Loc} {cells slots : Nat} {Q : State → Prop} {b L : Nat} {xs : Nat → Int32} {ls : Array Slot} {D Dm : va_G} {ca cm : Nat → ClassId} {cO cOd : ClassId} {α0 α : cAl} {lo hm hi bo bd : Nat} {μ : Nat → Nat} {g : Gm} {σ : cS} {τ : mS} {f : Nat → Int64} {fd : Nat → UInt64} {i : Nat} (hst : l.stackTraces = false) (hL : L ≤ 2560) (X : lX p s m c b L xs D Dm ca cm cO cOd α0 lo hm hi bo bd) (J : lJ s D Dm ca cm cO cOd α0 lo hm hi bo bd μ σ τ α f fd H locs) (hR : Rel g σ τ) (h5 : i + 5 ≤ L) (hl : lv_has ls 9 [(0, .ref b), (1, .ref (α0 0 0)), (2, .ref (μ 0)), (3, .ref bo), (4, .ref bd), (5, .int (nI i))]) (hcl : cells + 12 ≤ room_1.cells) (hsl : slots + 700 ≤ room_1.slots)
    (kk : ∀ (g' : Gm) (σ' : cS) (τ' : mS) (α' : cAl) (f' : Nat → Int64) (fd' : Nat → UInt64) (H' : Heap) (locs' : List Loc) (ls' : Array Slot), Rel g' σ' τ' → lJ s D Dm ca cm cO cOd α0 lo hm hi bo bd μ σ' τ' α' f' fd' H' locs' → lv_has ls' 9 [(0, .ref b), (1, .ref (α0 0 0)), (2, .ref (μ 0)), (3, .ref bo), (4, .ref bd), (5, .int (nI i))] → W p l e room_1 s m #[Value.ref b] below meth c H' locs' (cells + 12) (slots + 700) Q (F0 m 3212 ls' [])) :
    W p l e room_1 s m #[Value.ref b] below meth c H locs cells slots Q (F0 m 1117 ls []) := by
  obtain ⟨hx, hb, -, -, -⟩ := id X.1
  obtain ⟨hbo, -⟩ := l_nbo X
  obtain ⟨h17, -⟩ := l_n17 X J
  obtain ⟨g1, r, σ1, v, τ2, hfc, hfm, hagr, hR1⟩ := meth_begin hR (xs (i + 1))
  obtain ⟨j, hj1, hth, hrr⟩ := hagr.use (by decide)
  refine lv_aload_n hx hb dLaw_law_1117 rfl (lv_at hl 1 rfl) ?_
  refine l_arg (i := i) (k := 1) X J.2.2.2.1 hL (by omega) (by decide) (lv_at hl 0 rfl) (lv_at hl 5 rfl) dLaw_law_1118 dLaw_law_1119 dLaw_law_1121 dLaw_law_1122 dLaw_law_1123 ?_
  refine lv_aload_n hx hb dLaw_law_1124 rfl (lv_at hl 3 rfl) ?_
  refine l_wr (As := [.int (xs (i + 1)), .ref bo]) (rest := []) X J (cv_begin l hst D ca (lA s.heap.size lo hi) bo cO α σ f hbo h17 (xs (i + 1)) (r, σ1) hfc j hj1) lw_begin ⟨rfl, rfl⟩ ⟨Nat.le_of_ble_eq_true rfl, Nat.le_of_ble_eq_true rfl⟩ rfl rfl (cats_le _ (Nat.le_of_ble_eq_true rfl)) hl.1 dLaw_law_1125 ⟨Nat.le_trans (Nat.add_le_add_left (Nat.le_of_ble_eq_true rfl) _) hcl, Nat.le_trans (Nat.add_le_add_left (Nat.le_of_ble_eq_true rfl) _) hsl⟩ (fun α1 H1 locs1 J1 => ?_)
  refine lv_istore (lv' := [(6, .int (nI (lK j r))), (0, .ref b), (1, .ref (α0 0 0)), (2, .ref (μ 0)), (3, .ref bo), (4, .ref bd), (5, .int (nI i))]) hx hb dLaw_law_1128 hl (by decide) rfl (fun ls hl => ?_)
  refine lv_aload_n hx hb dLaw_law_1130 rfl (lv_at hl 3 rfl) ?_
  refine l_arg (i := i) (k := 1) X J1.2.2.2.1 hL (by omega) (by decide) (lv_at hl 1 rfl) (lv_at hl 6 rfl) dLaw_law_1131 dLaw_law_1132 dLaw_law_1134 dLaw_law_1135 dLaw_law_1136 ?_
  refine l_modI (As := [.int (xs (i + 1))]) (rest := []) X J1 (cm_begin l Dm cm μ (lB lo hm) τ (xs (i + 1)) (v, τ2) hfm) mwl_begin ⟨rfl, rfl⟩ ⟨Nat.le_of_ble_eq_true rfl, Nat.le_of_ble_eq_true rfl⟩ rfl rfl (cats_le _ (Nat.le_of_ble_eq_true rfl)) hl.1 dLaw_law_1137 ⟨Nat.le_trans (Nat.add_le_add_left (Nat.le_of_ble_eq_true rfl) _) hcl, Nat.le_trans (Nat.add_le_add_left (Nat.le_of_ble_eq_true rfl) _) hsl⟩ (fun H2 locs2 J2 => ?_)
  refine lv_istore (lv' := [(7, .int v), (6, .int (nI (lK j r))), (0, .ref b), (1, .ref (α0 0 0)), (2, .ref (μ 0)), (3, .ref bo), (4, .ref bd), (5, .int (nI i))]) hx hb dLaw_law_1140 hl (by decide) rfl (fun ls hl => ?_)
  refine lv_aload_n hx hb dLaw_law_1142 rfl (lv_at hl 4 rfl) ?_
  refine l_modI (As := []) (rest := []) X J2 (cm_thrown l Dm cm μ (lB lo hm) τ2 (τ2.1 0, τ2) rfl) mwl_thrown ⟨rfl, rfl⟩ ⟨Nat.le_of_ble_eq_true rfl, Nat.le_of_ble_eq_true rfl⟩ rfl rfl (cats_le _ (Nat.le_of_ble_eq_true rfl)) hl.1 dLaw_law_1143 ⟨Nat.le_trans (Nat.add_le_add_left (Nat.le_of_ble_eq_true rfl) _) hcl, Nat.le_trans (Nat.add_le_add_left (Nat.le_of_ble_eq_true rfl) _) hsl⟩ (fun H3 locs3 J3 => ?_)
  refine lv_iload hx hb dLaw_law_1146 (lv_at hl 1 rfl) ?_
  refine lv_icmp_eq (tgt := 1153) hx hb dLaw_law_1148 (by decide) (fun _ => ?_) (fun q => absurd hth q)
  refine lv_iload hx hb dLaw_law_1153 (lv_at hl 1 rfl) ?_
  have fin : W p l e room_1 s m #[Value.ref b] below meth c H3 locs3 (cells + 12) (slots + 700) Q (F0 m 3212 ls []) := kk g1 σ1 τ2 α1 _ fd H3 locs3 ls hR1 J3 (lv_sub hl [2, 3, 4, 5, 6, 7] rfl)
  refine W.widen (k := cells + 12) (n := slots + 700) (Nat.add_le_add_left (Nat.le_of_ble_eq_true rfl) _) (Nat.add_le_add_left (Nat.le_of_ble_eq_true rfl) _) ?_
  refine lv_if_ne (tgt := 1170) hx hb dLaw_law_1155 (by decide) (fun q => ?_) (fun q => ?_)
  · refine lv_goto (tgt := 3212) hx hb dLaw_law_1170 (by decide) ?_
    exact fin
  · rcases hrr with ⟨k0, rfl⟩ | ⟨k0, k1⟩
    · refine lv_aload_n hx hb dLaw_law_1158 rfl (lv_at hl 5 rfl) ?_
      refine lv_iconst (v := (0 : Int32)) hx hb dLaw_law_1159 (by decide) ?_
      refine va_lald hx hb X.2.2.1.2.2.1 J3.2.2.1.1 0 0 rfl rfl vp01 dLaw_law_1160 ?_
      refine lv_iload hx hb dLaw_law_1161 (lv_at hl 0 rfl) ?_
      refine lv_i2l hx hb dLaw_law_1163 rfl ?_
      refine W.lcmp hx hb dLaw_law_1164 ?_
      refine lv_if_eq (tgt := 1170) hx hb dLaw_law_1165 (by decide) (fun _ => ?_) (fun q => absurd (lg0.mpr (rfl)) q)
      refine lv_goto (tgt := 3212) hx hb dLaw_law_1170 (by decide) ?_
      exact fin
    · exact absurd q (nz_k k0 k1)
theorem lw_say : lCallS 245 yLaw_say cLaw_say 3 (lHh [2] 8 (fun j => ([11] : List Nat).getD j 0)) 2 := ⟨⟨wl_in (i := 1079) (by decide +kernel), wl_in (i := 1080) (by decide +kernel), wl_in (i := 0) (by decide +kernel), wl_in (i := 1081) (by decide +kernel)⟩, by decide, by decide, by decide +kernel⟩
theorem mwl_say : cCallV RV 247 RX12 yX12_say cX12_say 6 (some .char) 0 := ⟨⟨wl_in (i := 2130) (by decide +kernel), wl_in (i := 2131) (by decide +kernel), wl_in (i := 2132) (by decide +kernel), wl_in (i := 16) (by decide +kernel), wl_in (i := 2133) (by decide +kernel)⟩, rfl, by decide, by decide, by decide +kernel⟩
set_option maxHeartbeats 4000000 in
set_option maxRecDepth 100000 in
theorem lc_say {p : Program} {l : Launch} {e : Env} {s : State} {m : MethodId} {below : List Frame} {meth : Method} {c : Code} {H : Heap} {locs : List Loc} {cells slots : Nat} {Q : State → Prop} {b L : Nat} {xs : Nat → Int32} {ls : Array Slot} {D Dm : va_G} {ca cm : Nat → ClassId} {cO cOd : ClassId} {α0 α : cAl} {lo hm hi bo bd : Nat} {μ : Nat → Nat} {g : Gm} {σ : cS} {τ : mS} {f : Nat → Int64} {fd : Nat → UInt64} {i : Nat} (hst : l.stackTraces = false) (hL : L ≤ 2560) (X : lX p s m c b L xs D Dm ca cm cO cOd α0 lo hm hi bo bd) (J : lJ s D Dm ca cm cO cOd α0 lo hm hi bo bd μ σ τ α f fd H locs) (hR : Rel g σ τ) (h5 : i + 5 ≤ L) (hl : lv_has ls 9 [(0, .ref b), (1, .ref (α0 0 0)), (2, .ref (μ 0)), (3, .ref bo), (4, .ref bd), (5, .int (nI i))]) (hcl : cells + 12 ≤ room_1.cells) (hsl : slots + 700 ≤ room_1.slots)
    (kk : ∀ (g' : Gm) (σ' : cS) (τ' : mS) (α' : cAl) (f' : Nat → Int64) (fd' : Nat → UInt64) (H' : Heap) (locs' : List Loc) (ls' : Array Slot), Rel g' σ' τ' → lJ s D Dm ca cm cO cOd α0 lo hm hi bo bd μ σ' τ' α' f' fd' H' locs' → lv_has ls' 9 [(0, .ref b), (1, .ref (α0 0 0)), (2, .ref (μ 0)), (3, .ref bo), (4, .ref bd), (5, .int (nI i))] → W p l e room_1 s m #[Value.ref b] below meth c H' locs' (cells + 12) (slots + 700) Q (F0 m 3212 ls' [])) :
    W p l e room_1 s m #[Value.ref b] below meth c H locs cells slots Q (F0 m 1173 ls []) := by
  obtain ⟨hx, hb, -, -, -⟩ := id X.1
  obtain ⟨hbo, -⟩ := l_nbo X
  obtain ⟨h17, -⟩ := l_n17 X J
  obtain ⟨g1, r, σ1, v, τ2, hfc, hfm, hagr, hR1⟩ := meth_say hR 
  obtain ⟨j, hj1, hth, hrr⟩ := hagr.use (by decide)
  refine lv_aload_n hx hb dLaw_law_1173 rfl (lv_at hl 1 rfl) ?_
  refine lv_aload_n hx hb dLaw_law_1174 rfl (lv_at hl 3 rfl) ?_
  refine l_wr (As := [.ref bo]) (rest := []) X J (cv_say l hst D ca (lA s.heap.size lo hi) bo cO α σ f hbo h17  (r, σ1) hfc j hj1) lw_say ⟨rfl, rfl⟩ ⟨Nat.le_of_ble_eq_true rfl, Nat.le_of_ble_eq_true rfl⟩ rfl rfl (cats_le _ (Nat.le_of_ble_eq_true rfl)) hl.1 dLaw_law_1175 ⟨Nat.le_trans (Nat.add_le_add_left (Nat.le_of_ble_eq_true rfl) _) hcl, Nat.le_trans (Nat.add_le_add_left (Nat.le_of_ble_eq_true rfl) _) hsl⟩ (fun α1 H1 locs1 J1 => ?_)
  refine lv_istore (lv' := [(6, .int (nI (lK j r))), (0, .ref b), (1, .ref (α0 0 0)), (2, .ref (μ 0)), (3, .ref bo), (4, .ref bd), (5, .int (nI i))]) hx hb dLaw_law_1178 hl (by decide) rfl (fun ls hl => ?_)
  refine lv_aload_n hx hb dLaw_law_1180 rfl (lv_at hl 3 rfl) ?_
  refine l_modI (As := []) (rest := []) X J1 (cm_say l Dm cm μ (lB lo hm) τ  (v, τ2) hfm) mwl_say ⟨rfl, rfl⟩ ⟨Nat.le_of_ble_eq_true rfl, Nat.le_of_ble_eq_true rfl⟩ rfl rfl (cats_le _ (Nat.le_of_ble_eq_true rfl)) hl.1 dLaw_law_1181 ⟨Nat.le_trans (Nat.add_le_add_left (Nat.le_of_ble_eq_true rfl) _) hcl, Nat.le_trans (Nat.add_le_add_left (Nat.le_of_ble_eq_true rfl) _) hsl⟩ (fun H2 locs2 J2 => ?_)
  refine lv_istore (lv' := [(7, .int v), (6, .int (nI (lK j r))), (0, .ref b), (1, .ref (α0 0 0)), (2, .ref (μ 0)), (3, .ref bo), (4, .ref bd), (5, .int (nI i))]) hx hb dLaw_law_1184 hl (by decide) rfl (fun ls hl => ?_)
  refine lv_aload_n hx hb dLaw_law_1186 rfl (lv_at hl 4 rfl) ?_
  refine l_modI (As := []) (rest := []) X J2 (cm_thrown l Dm cm μ (lB lo hm) τ2 (τ2.1 0, τ2) rfl) mwl_thrown ⟨rfl, rfl⟩ ⟨Nat.le_of_ble_eq_true rfl, Nat.le_of_ble_eq_true rfl⟩ rfl rfl (cats_le _ (Nat.le_of_ble_eq_true rfl)) hl.1 dLaw_law_1187 ⟨Nat.le_trans (Nat.add_le_add_left (Nat.le_of_ble_eq_true rfl) _) hcl, Nat.le_trans (Nat.add_le_add_left (Nat.le_of_ble_eq_true rfl) _) hsl⟩ (fun H3 locs3 J3 => ?_)
  refine lv_iload hx hb dLaw_law_1190 (lv_at hl 1 rfl) ?_
  refine lv_icmp_eq (tgt := 1197) hx hb dLaw_law_1192 (by decide) (fun _ => ?_) (fun q => absurd hth q)
  refine lv_iload hx hb dLaw_law_1197 (lv_at hl 1 rfl) ?_
  have fin : W p l e room_1 s m #[Value.ref b] below meth c H3 locs3 (cells + 12) (slots + 700) Q (F0 m 3212 ls []) := kk g1 σ1 τ2 α1 _ fd H3 locs3 ls hR1 J3 (lv_sub hl [2, 3, 4, 5, 6, 7] rfl)
  refine W.widen (k := cells + 12) (n := slots + 700) (Nat.add_le_add_left (Nat.le_of_ble_eq_true rfl) _) (Nat.add_le_add_left (Nat.le_of_ble_eq_true rfl) _) ?_
  refine lv_if_ne (tgt := 1214) hx hb dLaw_law_1199 (by decide) (fun q => ?_) (fun q => ?_)
  · refine lv_goto (tgt := 3212) hx hb dLaw_law_1214 (by decide) ?_
    exact fin
  · rcases hrr with ⟨k0, rfl⟩ | ⟨k0, k1⟩
    · refine lv_aload_n hx hb dLaw_law_1202 rfl (lv_at hl 5 rfl) ?_
      refine lv_iconst (v := (0 : Int32)) hx hb dLaw_law_1203 (by decide) ?_
      refine va_lald hx hb X.2.2.1.2.2.1 J3.2.2.1.1 0 0 rfl rfl vp01 dLaw_law_1204 ?_
      refine lv_iload hx hb dLaw_law_1205 (lv_at hl 0 rfl) ?_
      refine lv_i2l hx hb dLaw_law_1207 rfl ?_
      refine W.lcmp hx hb dLaw_law_1208 ?_
      refine lv_if_eq (tgt := 1214) hx hb dLaw_law_1209 (by decide) (fun _ => ?_) (fun q => absurd (lg0.mpr (rfl)) q)
      refine lv_goto (tgt := 3212) hx hb dLaw_law_1214 (by decide) ?_
      exact fin
    · exact absurd q (nz_k k0 k1)
theorem lw_at : lCallS 248 yLaw_at cLaw_at 3 (lHh [2] 8 (fun j => ([11] : List Nat).getD j 0)) 2 := ⟨⟨wl_in (i := 1169) (by decide +kernel), wl_in (i := 1170) (by decide +kernel), wl_in (i := 0) (by decide +kernel), wl_in (i := 1171) (by decide +kernel)⟩, by decide, by decide, by decide +kernel⟩
theorem mwl_at : cCallV RV 250 RX12 yX12_at cX12_at 1 (some .int) 0 := ⟨⟨wl_in (i := 2189) (by decide +kernel), wl_in (i := 2190) (by decide +kernel), wl_in (i := 2191) (by decide +kernel), wl_in (i := 16) (by decide +kernel), wl_in (i := 2192) (by decide +kernel)⟩, rfl, by decide, by decide, by decide +kernel⟩
set_option maxHeartbeats 4000000 in
set_option maxRecDepth 100000 in
theorem lc_at {p : Program} {l : Launch} {e : Env} {s : State} {m : MethodId} {below : List Frame} {meth : Method} {c : Code} {H : Heap} {locs : List Loc} {cells slots : Nat} {Q : State → Prop} {b L : Nat} {xs : Nat → Int32} {ls : Array Slot} {D Dm : va_G} {ca cm : Nat → ClassId} {cO cOd : ClassId} {α0 α : cAl} {lo hm hi bo bd : Nat} {μ : Nat → Nat} {g : Gm} {σ : cS} {τ : mS} {f : Nat → Int64} {fd : Nat → UInt64} {i : Nat} (hst : l.stackTraces = false) (hL : L ≤ 2560) (X : lX p s m c b L xs D Dm ca cm cO cOd α0 lo hm hi bo bd) (J : lJ s D Dm ca cm cO cOd α0 lo hm hi bo bd μ σ τ α f fd H locs) (hR : Rel g σ τ) (h5 : i + 5 ≤ L) (hl : lv_has ls 9 [(0, .ref b), (1, .ref (α0 0 0)), (2, .ref (μ 0)), (3, .ref bo), (4, .ref bd), (5, .int (nI i))]) (hcl : cells + 12 ≤ room_1.cells) (hsl : slots + 700 ≤ room_1.slots)
    (kk : ∀ (g' : Gm) (σ' : cS) (τ' : mS) (α' : cAl) (f' : Nat → Int64) (fd' : Nat → UInt64) (H' : Heap) (locs' : List Loc) (ls' : Array Slot), Rel g' σ' τ' → lJ s D Dm ca cm cO cOd α0 lo hm hi bo bd μ σ' τ' α' f' fd' H' locs' → lv_has ls' 9 [(0, .ref b), (1, .ref (α0 0 0)), (2, .ref (μ 0)), (3, .ref bo), (4, .ref bd), (5, .int (nI i))] → W p l e room_1 s m #[Value.ref b] below meth c H' locs' (cells + 12) (slots + 700) Q (F0 m 3212 ls' [])) :
    W p l e room_1 s m #[Value.ref b] below meth c H locs cells slots Q (F0 m 1217 ls []) := by
  obtain ⟨hx, hb, -, -, -⟩ := id X.1
  obtain ⟨hbo, -⟩ := l_nbo X
  obtain ⟨h17, -⟩ := l_n17 X J
  obtain ⟨g1, r, σ1, v, τ2, hfc, hfm, hagr, hR1⟩ := meth_at hR 
  obtain ⟨j, hj1, hth, hrr⟩ := hagr.use (by decide)
  refine lv_aload_n hx hb dLaw_law_1217 rfl (lv_at hl 1 rfl) ?_
  refine lv_aload_n hx hb dLaw_law_1218 rfl (lv_at hl 3 rfl) ?_
  refine l_wr (As := [.ref bo]) (rest := []) X J (cv_at l hst D ca (lA s.heap.size lo hi) bo cO α σ f hbo h17  (r, σ1) hfc j hj1) lw_at ⟨rfl, rfl⟩ ⟨Nat.le_of_ble_eq_true rfl, Nat.le_of_ble_eq_true rfl⟩ rfl rfl (cats_le _ (Nat.le_of_ble_eq_true rfl)) hl.1 dLaw_law_1219 ⟨Nat.le_trans (Nat.add_le_add_left (Nat.le_of_ble_eq_true rfl) _) hcl, Nat.le_trans (Nat.add_le_add_left (Nat.le_of_ble_eq_true rfl) _) hsl⟩ (fun α1 H1 locs1 J1 => ?_)
  refine lv_istore (lv' := [(6, .int (nI (lK j r))), (0, .ref b), (1, .ref (α0 0 0)), (2, .ref (μ 0)), (3, .ref bo), (4, .ref bd), (5, .int (nI i))]) hx hb dLaw_law_1222 hl (by decide) rfl (fun ls hl => ?_)
  refine lv_aload_n hx hb dLaw_law_1224 rfl (lv_at hl 3 rfl) ?_
  refine l_modI (As := []) (rest := []) X J1 (cm_at l Dm cm μ (lB lo hm) τ  (v, τ2) hfm) mwl_at ⟨rfl, rfl⟩ ⟨Nat.le_of_ble_eq_true rfl, Nat.le_of_ble_eq_true rfl⟩ rfl rfl (cats_le _ (Nat.le_of_ble_eq_true rfl)) hl.1 dLaw_law_1225 ⟨Nat.le_trans (Nat.add_le_add_left (Nat.le_of_ble_eq_true rfl) _) hcl, Nat.le_trans (Nat.add_le_add_left (Nat.le_of_ble_eq_true rfl) _) hsl⟩ (fun H2 locs2 J2 => ?_)
  refine lv_istore (lv' := [(7, .int v), (6, .int (nI (lK j r))), (0, .ref b), (1, .ref (α0 0 0)), (2, .ref (μ 0)), (3, .ref bo), (4, .ref bd), (5, .int (nI i))]) hx hb dLaw_law_1228 hl (by decide) rfl (fun ls hl => ?_)
  refine lv_aload_n hx hb dLaw_law_1230 rfl (lv_at hl 4 rfl) ?_
  refine l_modI (As := []) (rest := []) X J2 (cm_thrown l Dm cm μ (lB lo hm) τ2 (τ2.1 0, τ2) rfl) mwl_thrown ⟨rfl, rfl⟩ ⟨Nat.le_of_ble_eq_true rfl, Nat.le_of_ble_eq_true rfl⟩ rfl rfl (cats_le _ (Nat.le_of_ble_eq_true rfl)) hl.1 dLaw_law_1231 ⟨Nat.le_trans (Nat.add_le_add_left (Nat.le_of_ble_eq_true rfl) _) hcl, Nat.le_trans (Nat.add_le_add_left (Nat.le_of_ble_eq_true rfl) _) hsl⟩ (fun H3 locs3 J3 => ?_)
  refine lv_iload hx hb dLaw_law_1234 (lv_at hl 1 rfl) ?_
  refine lv_icmp_eq (tgt := 1241) hx hb dLaw_law_1236 (by decide) (fun _ => ?_) (fun q => absurd hth q)
  refine lv_iload hx hb dLaw_law_1241 (lv_at hl 1 rfl) ?_
  have fin : W p l e room_1 s m #[Value.ref b] below meth c H3 locs3 (cells + 12) (slots + 700) Q (F0 m 3212 ls []) := kk g1 σ1 τ2 α1 _ fd H3 locs3 ls hR1 J3 (lv_sub hl [2, 3, 4, 5, 6, 7] rfl)
  refine W.widen (k := cells + 12) (n := slots + 700) (Nat.add_le_add_left (Nat.le_of_ble_eq_true rfl) _) (Nat.add_le_add_left (Nat.le_of_ble_eq_true rfl) _) ?_
  refine lv_if_ne (tgt := 1258) hx hb dLaw_law_1243 (by decide) (fun q => ?_) (fun q => ?_)
  · refine lv_goto (tgt := 3212) hx hb dLaw_law_1258 (by decide) ?_
    exact fin
  · rcases hrr with ⟨k0, rfl⟩ | ⟨k0, k1⟩
    · refine lv_aload_n hx hb dLaw_law_1246 rfl (lv_at hl 5 rfl) ?_
      refine lv_iconst (v := (0 : Int32)) hx hb dLaw_law_1247 (by decide) ?_
      refine va_lald hx hb X.2.2.1.2.2.1 J3.2.2.1.1 0 0 rfl rfl vp01 dLaw_law_1248 ?_
      refine lv_iload hx hb dLaw_law_1249 (lv_at hl 0 rfl) ?_
      refine lv_i2l hx hb dLaw_law_1251 rfl ?_
      refine W.lcmp hx hb dLaw_law_1252 ?_
      refine lv_if_eq (tgt := 1258) hx hb dLaw_law_1253 (by decide) (fun _ => ?_) (fun q => absurd (lg0.mpr (rfl)) q)
      refine lv_goto (tgt := 3212) hx hb dLaw_law_1258 (by decide) ?_
      exact fin
    · exact absurd q (nz_k k0 k1)
theorem lw_place : lCallS 251 yLaw_place cLaw_place 4 (lHh [4, 2] 9 (fun j => ([12, 15] : List Nat).getD j 0)) 3 := ⟨⟨wl_in (i := 1180) (by decide +kernel), wl_in (i := 1181) (by decide +kernel), wl_in (i := 0) (by decide +kernel), wl_in (i := 1182) (by decide +kernel)⟩, by decide, by decide, by decide +kernel⟩
theorem mwl_place : cCallV RV 253 RX12 yX12_place cX12_place 2 (some .int) 1 := ⟨⟨wl_in (i := 2197) (by decide +kernel), wl_in (i := 2198) (by decide +kernel), wl_in (i := 2199) (by decide +kernel), wl_in (i := 16) (by decide +kernel), wl_in (i := 2200) (by decide +kernel)⟩, rfl, by decide, by decide, by decide +kernel⟩
set_option maxHeartbeats 4000000 in
set_option maxRecDepth 100000 in
theorem lc_place {p : Program} {l : Launch} {e : Env} {s : State} {m : MethodId} {below : List Frame} {meth : Method} {c : Code} {H : Heap} {locs : List Loc} {cells slots : Nat} {Q : State → Prop} {b L : Nat} {xs : Nat → Int32} {ls : Array Slot} {D Dm : va_G} {ca cm : Nat → ClassId} {cO cOd : ClassId} {α0 α : cAl} {lo hm hi bo bd : Nat} {μ : Nat → Nat} {g : Gm} {σ : cS} {τ : mS} {f : Nat → Int64} {fd : Nat → UInt64} {i : Nat} (hst : l.stackTraces = false) (hL : L ≤ 2560) (X : lX p s m c b L xs D Dm ca cm cO cOd α0 lo hm hi bo bd) (J : lJ s D Dm ca cm cO cOd α0 lo hm hi bo bd μ σ τ α f fd H locs) (hR : Rel g σ τ) (h5 : i + 5 ≤ L) (hl : lv_has ls 9 [(0, .ref b), (1, .ref (α0 0 0)), (2, .ref (μ 0)), (3, .ref bo), (4, .ref bd), (5, .int (nI i))]) (hcl : cells + 12 ≤ room_1.cells) (hsl : slots + 700 ≤ room_1.slots)
    (kk : ∀ (g' : Gm) (σ' : cS) (τ' : mS) (α' : cAl) (f' : Nat → Int64) (fd' : Nat → UInt64) (H' : Heap) (locs' : List Loc) (ls' : Array Slot), Rel g' σ' τ' → lJ s D Dm ca cm cO cOd α0 lo hm hi bo bd μ σ' τ' α' f' fd' H' locs' → lv_has ls' 9 [(0, .ref b), (1, .ref (α0 0 0)), (2, .ref (μ 0)), (3, .ref bo), (4, .ref bd), (5, .int (nI i))] → W p l e room_1 s m #[Value.ref b] below meth c H' locs' (cells + 12) (slots + 700) Q (F0 m 3212 ls' [])) :
    W p l e room_1 s m #[Value.ref b] below meth c H locs cells slots Q (F0 m 1261 ls []) := by
  obtain ⟨hx, hb, -, -, -⟩ := id X.1
  obtain ⟨hbo, -⟩ := l_nbo X
  obtain ⟨h17, -⟩ := l_n17 X J
  obtain ⟨g1, r, σ1, v, τ2, hfc, hfm, hagr, hR1⟩ := meth_place hR (xs (i + 1))
  obtain ⟨j, hj1, hth, hrr⟩ := hagr.use (by decide)
  refine lv_aload_n hx hb dLaw_law_1261 rfl (lv_at hl 1 rfl) ?_
  refine l_arg (i := i) (k := 1) X J.2.2.2.1 hL (by omega) (by decide) (lv_at hl 0 rfl) (lv_at hl 5 rfl) dLaw_law_1262 dLaw_law_1263 dLaw_law_1265 dLaw_law_1266 dLaw_law_1267 ?_
  refine lv_aload_n hx hb dLaw_law_1268 rfl (lv_at hl 3 rfl) ?_
  refine l_wr (As := [.int (xs (i + 1)), .ref bo]) (rest := []) X J (cv_place l hst D ca (lA s.heap.size lo hi) bo cO α σ f hbo h17 (xs (i + 1)) (r, σ1) hfc j hj1) lw_place ⟨rfl, rfl⟩ ⟨Nat.le_of_ble_eq_true rfl, Nat.le_of_ble_eq_true rfl⟩ rfl rfl (cats_le _ (Nat.le_of_ble_eq_true rfl)) hl.1 dLaw_law_1269 ⟨Nat.le_trans (Nat.add_le_add_left (Nat.le_of_ble_eq_true rfl) _) hcl, Nat.le_trans (Nat.add_le_add_left (Nat.le_of_ble_eq_true rfl) _) hsl⟩ (fun α1 H1 locs1 J1 => ?_)
  refine lv_istore (lv' := [(6, .int (nI (lK j r))), (0, .ref b), (1, .ref (α0 0 0)), (2, .ref (μ 0)), (3, .ref bo), (4, .ref bd), (5, .int (nI i))]) hx hb dLaw_law_1272 hl (by decide) rfl (fun ls hl => ?_)
  refine lv_aload_n hx hb dLaw_law_1274 rfl (lv_at hl 3 rfl) ?_
  refine l_arg (i := i) (k := 1) X J1.2.2.2.1 hL (by omega) (by decide) (lv_at hl 1 rfl) (lv_at hl 6 rfl) dLaw_law_1275 dLaw_law_1276 dLaw_law_1278 dLaw_law_1279 dLaw_law_1280 ?_
  refine l_modI (As := [.int (xs (i + 1))]) (rest := []) X J1 (cm_place l Dm cm μ (lB lo hm) τ (xs (i + 1)) (v, τ2) hfm) mwl_place ⟨rfl, rfl⟩ ⟨Nat.le_of_ble_eq_true rfl, Nat.le_of_ble_eq_true rfl⟩ rfl rfl (cats_le _ (Nat.le_of_ble_eq_true rfl)) hl.1 dLaw_law_1281 ⟨Nat.le_trans (Nat.add_le_add_left (Nat.le_of_ble_eq_true rfl) _) hcl, Nat.le_trans (Nat.add_le_add_left (Nat.le_of_ble_eq_true rfl) _) hsl⟩ (fun H2 locs2 J2 => ?_)
  refine lv_istore (lv' := [(7, .int v), (6, .int (nI (lK j r))), (0, .ref b), (1, .ref (α0 0 0)), (2, .ref (μ 0)), (3, .ref bo), (4, .ref bd), (5, .int (nI i))]) hx hb dLaw_law_1284 hl (by decide) rfl (fun ls hl => ?_)
  refine lv_aload_n hx hb dLaw_law_1286 rfl (lv_at hl 4 rfl) ?_
  refine l_modI (As := []) (rest := []) X J2 (cm_thrown l Dm cm μ (lB lo hm) τ2 (τ2.1 0, τ2) rfl) mwl_thrown ⟨rfl, rfl⟩ ⟨Nat.le_of_ble_eq_true rfl, Nat.le_of_ble_eq_true rfl⟩ rfl rfl (cats_le _ (Nat.le_of_ble_eq_true rfl)) hl.1 dLaw_law_1287 ⟨Nat.le_trans (Nat.add_le_add_left (Nat.le_of_ble_eq_true rfl) _) hcl, Nat.le_trans (Nat.add_le_add_left (Nat.le_of_ble_eq_true rfl) _) hsl⟩ (fun H3 locs3 J3 => ?_)
  refine lv_iload hx hb dLaw_law_1290 (lv_at hl 1 rfl) ?_
  refine lv_icmp_eq (tgt := 1297) hx hb dLaw_law_1292 (by decide) (fun _ => ?_) (fun q => absurd hth q)
  refine lv_iload hx hb dLaw_law_1297 (lv_at hl 1 rfl) ?_
  have fin : W p l e room_1 s m #[Value.ref b] below meth c H3 locs3 (cells + 12) (slots + 700) Q (F0 m 3212 ls []) := kk g1 σ1 τ2 α1 _ fd H3 locs3 ls hR1 J3 (lv_sub hl [2, 3, 4, 5, 6, 7] rfl)
  refine W.widen (k := cells + 12) (n := slots + 700) (Nat.add_le_add_left (Nat.le_of_ble_eq_true rfl) _) (Nat.add_le_add_left (Nat.le_of_ble_eq_true rfl) _) ?_
  refine lv_if_ne (tgt := 1314) hx hb dLaw_law_1299 (by decide) (fun q => ?_) (fun q => ?_)
  · refine lv_goto (tgt := 3212) hx hb dLaw_law_1314 (by decide) ?_
    exact fin
  · rcases hrr with ⟨k0, rfl⟩ | ⟨k0, k1⟩
    · refine lv_aload_n hx hb dLaw_law_1302 rfl (lv_at hl 5 rfl) ?_
      refine lv_iconst (v := (0 : Int32)) hx hb dLaw_law_1303 (by decide) ?_
      refine va_lald hx hb X.2.2.1.2.2.1 J3.2.2.1.1 0 0 rfl rfl vp01 dLaw_law_1304 ?_
      refine lv_iload hx hb dLaw_law_1305 (lv_at hl 0 rfl) ?_
      refine lv_i2l hx hb dLaw_law_1307 rfl ?_
      refine W.lcmp hx hb dLaw_law_1308 ?_
      refine lv_if_eq (tgt := 1314) hx hb dLaw_law_1309 (by decide) (fun _ => ?_) (fun q => absurd (lg0.mpr (rfl)) q)
      refine lv_goto (tgt := 3212) hx hb dLaw_law_1314 (by decide) ?_
      exact fin
    · exact absurd q (nz_k k0 k1)
theorem lw_isOpen : lCallS 254 yLaw_isOpen cLaw_isOpen 4 (lHh [4, 2, 3] 16 (fun j => ([19, 22, 25] : List Nat).getD j 0)) 3 := ⟨⟨wl_in (i := 1187) (by decide +kernel), wl_in (i := 1188) (by decide +kernel), wl_in (i := 0) (by decide +kernel), wl_in (i := 1189) (by decide +kernel)⟩, by decide, by decide, by decide +kernel⟩
theorem mwl_isOpen : cCallV RV 256 RX12 yX12_isOpen cX12_isOpen 2 (some .boolean) 1 := ⟨⟨wl_in (i := 2205) (by decide +kernel), wl_in (i := 2206) (by decide +kernel), wl_in (i := 2207) (by decide +kernel), wl_in (i := 16) (by decide +kernel), wl_in (i := 2208) (by decide +kernel)⟩, rfl, by decide, by decide, by decide +kernel⟩
set_option maxHeartbeats 4000000 in
set_option maxRecDepth 100000 in
theorem lc_isOpen {p : Program} {l : Launch} {e : Env} {s : State} {m : MethodId} {below : List Frame} {meth : Method} {c : Code} {H : Heap} {locs : List Loc} {cells slots : Nat} {Q : State → Prop} {b L : Nat} {xs : Nat → Int32} {ls : Array Slot} {D Dm : va_G} {ca cm : Nat → ClassId} {cO cOd : ClassId} {α0 α : cAl} {lo hm hi bo bd : Nat} {μ : Nat → Nat} {g : Gm} {σ : cS} {τ : mS} {f : Nat → Int64} {fd : Nat → UInt64} {i : Nat} (hst : l.stackTraces = false) (hL : L ≤ 2560) (X : lX p s m c b L xs D Dm ca cm cO cOd α0 lo hm hi bo bd) (J : lJ s D Dm ca cm cO cOd α0 lo hm hi bo bd μ σ τ α f fd H locs) (hR : Rel g σ τ) (h5 : i + 5 ≤ L) (hl : lv_has ls 9 [(0, .ref b), (1, .ref (α0 0 0)), (2, .ref (μ 0)), (3, .ref bo), (4, .ref bd), (5, .int (nI i))]) (hcl : cells + 12 ≤ room_1.cells) (hsl : slots + 700 ≤ room_1.slots)
    (kk : ∀ (g' : Gm) (σ' : cS) (τ' : mS) (α' : cAl) (f' : Nat → Int64) (fd' : Nat → UInt64) (H' : Heap) (locs' : List Loc) (ls' : Array Slot), Rel g' σ' τ' → lJ s D Dm ca cm cO cOd α0 lo hm hi bo bd μ σ' τ' α' f' fd' H' locs' → lv_has ls' 9 [(0, .ref b), (1, .ref (α0 0 0)), (2, .ref (μ 0)), (3, .ref bo), (4, .ref bd), (5, .int (nI i))] → W p l e room_1 s m #[Value.ref b] below meth c H' locs' (cells + 12) (slots + 700) Q (F0 m 3212 ls' [])) :
    W p l e room_1 s m #[Value.ref b] below meth c H locs cells slots Q (F0 m 1317 ls []) := by
  obtain ⟨hx, hb, -, -, -⟩ := id X.1
  obtain ⟨hbo, -⟩ := l_nbo X
  obtain ⟨h17, -⟩ := l_n17 X J
  obtain ⟨g1, r, σ1, v, τ2, hfc, hfm, hagr, hR1⟩ := meth_isOpen hR (xs (i + 1))
  obtain ⟨j, hj1, hth, hrr⟩ := hagr.use (by decide)
  refine lv_aload_n hx hb dLaw_law_1317 rfl (lv_at hl 1 rfl) ?_
  refine l_arg (i := i) (k := 1) X J.2.2.2.1 hL (by omega) (by decide) (lv_at hl 0 rfl) (lv_at hl 5 rfl) dLaw_law_1318 dLaw_law_1319 dLaw_law_1321 dLaw_law_1322 dLaw_law_1323 ?_
  refine lv_aload_n hx hb dLaw_law_1324 rfl (lv_at hl 3 rfl) ?_
  refine l_wr (As := [.int (xs (i + 1)), .ref bo]) (rest := []) X J (cv_isOpen l hst D ca (lA s.heap.size lo hi) bo cO α σ f hbo h17 (xs (i + 1)) (r, σ1) hfc j hj1) lw_isOpen ⟨rfl, rfl⟩ ⟨Nat.le_of_ble_eq_true rfl, Nat.le_of_ble_eq_true rfl⟩ rfl rfl (cats_le _ (Nat.le_of_ble_eq_true rfl)) hl.1 dLaw_law_1325 ⟨Nat.le_trans (Nat.add_le_add_left (Nat.le_of_ble_eq_true rfl) _) hcl, Nat.le_trans (Nat.add_le_add_left (Nat.le_of_ble_eq_true rfl) _) hsl⟩ (fun α1 H1 locs1 J1 => ?_)
  refine lv_istore (lv' := [(6, .int (nI (lK j r))), (0, .ref b), (1, .ref (α0 0 0)), (2, .ref (μ 0)), (3, .ref bo), (4, .ref bd), (5, .int (nI i))]) hx hb dLaw_law_1328 hl (by decide) rfl (fun ls hl => ?_)
  refine lv_aload_n hx hb dLaw_law_1330 rfl (lv_at hl 3 rfl) ?_
  refine l_arg (i := i) (k := 1) X J1.2.2.2.1 hL (by omega) (by decide) (lv_at hl 1 rfl) (lv_at hl 6 rfl) dLaw_law_1331 dLaw_law_1332 dLaw_law_1334 dLaw_law_1335 dLaw_law_1336 ?_
  refine l_modI (As := [.int (xs (i + 1))]) (rest := []) X J1 (cm_isOpen l Dm cm μ (lB lo hm) τ (xs (i + 1)) (v, τ2) hfm) mwl_isOpen ⟨rfl, rfl⟩ ⟨Nat.le_of_ble_eq_true rfl, Nat.le_of_ble_eq_true rfl⟩ rfl rfl (cats_le _ (Nat.le_of_ble_eq_true rfl)) hl.1 dLaw_law_1337 ⟨Nat.le_trans (Nat.add_le_add_left (Nat.le_of_ble_eq_true rfl) _) hcl, Nat.le_trans (Nat.add_le_add_left (Nat.le_of_ble_eq_true rfl) _) hsl⟩ (fun H2 locs2 J2 => ?_)
  refine lv_istore (lv' := [(7, .int v), (6, .int (nI (lK j r))), (0, .ref b), (1, .ref (α0 0 0)), (2, .ref (μ 0)), (3, .ref bo), (4, .ref bd), (5, .int (nI i))]) hx hb dLaw_law_1340 hl (by decide) rfl (fun ls hl => ?_)
  refine lv_aload_n hx hb dLaw_law_1342 rfl (lv_at hl 4 rfl) ?_
  refine l_modI (As := []) (rest := []) X J2 (cm_thrown l Dm cm μ (lB lo hm) τ2 (τ2.1 0, τ2) rfl) mwl_thrown ⟨rfl, rfl⟩ ⟨Nat.le_of_ble_eq_true rfl, Nat.le_of_ble_eq_true rfl⟩ rfl rfl (cats_le _ (Nat.le_of_ble_eq_true rfl)) hl.1 dLaw_law_1343 ⟨Nat.le_trans (Nat.add_le_add_left (Nat.le_of_ble_eq_true rfl) _) hcl, Nat.le_trans (Nat.add_le_add_left (Nat.le_of_ble_eq_true rfl) _) hsl⟩ (fun H3 locs3 J3 => ?_)
  refine lv_iload hx hb dLaw_law_1346 (lv_at hl 1 rfl) ?_
  refine lv_icmp_eq (tgt := 1353) hx hb dLaw_law_1348 (by decide) (fun _ => ?_) (fun q => absurd hth q)
  refine lv_iload hx hb dLaw_law_1353 (lv_at hl 1 rfl) ?_
  have fin : W p l e room_1 s m #[Value.ref b] below meth c H3 locs3 (cells + 12) (slots + 700) Q (F0 m 3212 ls []) := kk g1 σ1 τ2 α1 _ fd H3 locs3 ls hR1 J3 (lv_sub hl [2, 3, 4, 5, 6, 7] rfl)
  refine W.widen (k := cells + 12) (n := slots + 700) (Nat.add_le_add_left (Nat.le_of_ble_eq_true rfl) _) (Nat.add_le_add_left (Nat.le_of_ble_eq_true rfl) _) ?_
  refine lv_if_ne (tgt := 1377) hx hb dLaw_law_1355 (by decide) (fun q => ?_) (fun q => ?_)
  · refine lv_goto (tgt := 3212) hx hb dLaw_law_1377 (by decide) ?_
    exact fin
  · rcases hrr with ⟨k0, rfl⟩ | ⟨k0, k1⟩
    · refine lv_aload_n hx hb dLaw_law_1358 rfl (lv_at hl 5 rfl) ?_
      refine lv_iconst (v := (0 : Int32)) hx hb dLaw_law_1359 (by decide) ?_
      refine va_lald hx hb X.2.2.1.2.2.1 J3.2.2.1.1 0 0 rfl rfl vp01 dLaw_law_1360 ?_
      refine lv_iload hx hb dLaw_law_1361 (lv_at hl 0 rfl) ?_
      refine lv_if_eq (tgt := 1370) hx hb dLaw_law_1363 (by decide) (fun q1 => ?_) (fun q1 => ?_)
      · refine lv_lconst (v := (0 : Int64)) hx hb dLaw_law_1370 (by decide) ?_
        refine W.lcmp hx hb dLaw_law_1371 ?_
        refine lv_if_eq (tgt := 1377) hx hb dLaw_law_1372 (by decide) (fun _ => ?_) (fun q => absurd (lg0.mpr (show (if v = 0 then (0 : Int64) else 1) = 0 from if_pos q1)) q)
        refine lv_goto (tgt := 3212) hx hb dLaw_law_1377 (by decide) ?_
        exact fin
      · refine lv_lconst (v := (1 : Int64)) hx hb dLaw_law_1366 (by decide) ?_
        refine lv_goto (tgt := 1371) hx hb dLaw_law_1367 (by decide) ?_
        refine W.lcmp hx hb dLaw_law_1371 ?_
        refine lv_if_eq (tgt := 1377) hx hb dLaw_law_1372 (by decide) (fun _ => ?_) (fun q => absurd (lg0.mpr (show (if v = 0 then (0 : Int64) else 1) = 1 from if_neg q1)) q)
        refine lv_goto (tgt := 3212) hx hb dLaw_law_1377 (by decide) ?_
        exact fin
    · exact absurd q (nz_k k0 k1)
theorem lw_lit : lCallS 257 yLaw_lit cLaw_lit 4 (lHh [4, 2, 3] 9 (fun j => ([12, 15, 18] : List Nat).getD j 0)) 3 := ⟨⟨wl_in (i := 1194) (by decide +kernel), wl_in (i := 1195) (by decide +kernel), wl_in (i := 0) (by decide +kernel), wl_in (i := 1196) (by decide +kernel)⟩, by decide, by decide, by decide +kernel⟩
theorem mwl_lit : cCallV RV 259 RX12 yX12_lit cX12_lit 3 (some .int) 1 := ⟨⟨wl_in (i := 2209) (by decide +kernel), wl_in (i := 2210) (by decide +kernel), wl_in (i := 2211) (by decide +kernel), wl_in (i := 16) (by decide +kernel), wl_in (i := 2212) (by decide +kernel)⟩, rfl, by decide, by decide, by decide +kernel⟩
set_option maxHeartbeats 4000000 in
set_option maxRecDepth 100000 in
theorem lc_lit {p : Program} {l : Launch} {e : Env} {s : State} {m : MethodId} {below : List Frame} {meth : Method} {c : Code} {H : Heap} {locs : List Loc} {cells slots : Nat} {Q : State → Prop} {b L : Nat} {xs : Nat → Int32} {ls : Array Slot} {D Dm : va_G} {ca cm : Nat → ClassId} {cO cOd : ClassId} {α0 α : cAl} {lo hm hi bo bd : Nat} {μ : Nat → Nat} {g : Gm} {σ : cS} {τ : mS} {f : Nat → Int64} {fd : Nat → UInt64} {i : Nat} (hst : l.stackTraces = false) (hL : L ≤ 2560) (X : lX p s m c b L xs D Dm ca cm cO cOd α0 lo hm hi bo bd) (J : lJ s D Dm ca cm cO cOd α0 lo hm hi bo bd μ σ τ α f fd H locs) (hR : Rel g σ τ) (h5 : i + 5 ≤ L) (hl : lv_has ls 9 [(0, .ref b), (1, .ref (α0 0 0)), (2, .ref (μ 0)), (3, .ref bo), (4, .ref bd), (5, .int (nI i))]) (hcl : cells + 12 ≤ room_1.cells) (hsl : slots + 700 ≤ room_1.slots)
    (kk : ∀ (g' : Gm) (σ' : cS) (τ' : mS) (α' : cAl) (f' : Nat → Int64) (fd' : Nat → UInt64) (H' : Heap) (locs' : List Loc) (ls' : Array Slot), Rel g' σ' τ' → lJ s D Dm ca cm cO cOd α0 lo hm hi bo bd μ σ' τ' α' f' fd' H' locs' → lv_has ls' 9 [(0, .ref b), (1, .ref (α0 0 0)), (2, .ref (μ 0)), (3, .ref bo), (4, .ref bd), (5, .int (nI i))] → W p l e room_1 s m #[Value.ref b] below meth c H' locs' (cells + 12) (slots + 700) Q (F0 m 3212 ls' [])) :
    W p l e room_1 s m #[Value.ref b] below meth c H locs cells slots Q (F0 m 1380 ls []) := by
  obtain ⟨hx, hb, -, -, -⟩ := id X.1
  obtain ⟨hbo, -⟩ := l_nbo X
  obtain ⟨h17, -⟩ := l_n17 X J
  obtain ⟨g1, r, σ1, v, τ2, hfc, hfm, hagr, hR1⟩ := meth_lit hR (xs (i + 1))
  obtain ⟨j, hj1, hth, hrr⟩ := hagr.use (by decide)
  refine lv_aload_n hx hb dLaw_law_1380 rfl (lv_at hl 1 rfl) ?_
  refine l_arg (i := i) (k := 1) X J.2.2.2.1 hL (by omega) (by decide) (lv_at hl 0 rfl) (lv_at hl 5 rfl) dLaw_law_1381 dLaw_law_1382 dLaw_law_1384 dLaw_law_1385 dLaw_law_1386 ?_
  refine lv_aload_n hx hb dLaw_law_1387 rfl (lv_at hl 3 rfl) ?_
  refine l_wr (As := [.int (xs (i + 1)), .ref bo]) (rest := []) X J (cv_lit l hst D ca (lA s.heap.size lo hi) bo cO α σ f hbo h17 (xs (i + 1)) (r, σ1) hfc j hj1) lw_lit ⟨rfl, rfl⟩ ⟨Nat.le_of_ble_eq_true rfl, Nat.le_of_ble_eq_true rfl⟩ rfl rfl (cats_le _ (Nat.le_of_ble_eq_true rfl)) hl.1 dLaw_law_1388 ⟨Nat.le_trans (Nat.add_le_add_left (Nat.le_of_ble_eq_true rfl) _) hcl, Nat.le_trans (Nat.add_le_add_left (Nat.le_of_ble_eq_true rfl) _) hsl⟩ (fun α1 H1 locs1 J1 => ?_)
  refine lv_istore (lv' := [(6, .int (nI (lK j r))), (0, .ref b), (1, .ref (α0 0 0)), (2, .ref (μ 0)), (3, .ref bo), (4, .ref bd), (5, .int (nI i))]) hx hb dLaw_law_1391 hl (by decide) rfl (fun ls hl => ?_)
  refine lv_aload_n hx hb dLaw_law_1393 rfl (lv_at hl 3 rfl) ?_
  refine l_arg (i := i) (k := 1) X J1.2.2.2.1 hL (by omega) (by decide) (lv_at hl 1 rfl) (lv_at hl 6 rfl) dLaw_law_1394 dLaw_law_1395 dLaw_law_1397 dLaw_law_1398 dLaw_law_1399 ?_
  refine l_modI (As := [.int (xs (i + 1))]) (rest := []) X J1 (cm_lit l Dm cm μ (lB lo hm) τ (xs (i + 1)) (v, τ2) hfm) mwl_lit ⟨rfl, rfl⟩ ⟨Nat.le_of_ble_eq_true rfl, Nat.le_of_ble_eq_true rfl⟩ rfl rfl (cats_le _ (Nat.le_of_ble_eq_true rfl)) hl.1 dLaw_law_1400 ⟨Nat.le_trans (Nat.add_le_add_left (Nat.le_of_ble_eq_true rfl) _) hcl, Nat.le_trans (Nat.add_le_add_left (Nat.le_of_ble_eq_true rfl) _) hsl⟩ (fun H2 locs2 J2 => ?_)
  refine lv_istore (lv' := [(7, .int v), (6, .int (nI (lK j r))), (0, .ref b), (1, .ref (α0 0 0)), (2, .ref (μ 0)), (3, .ref bo), (4, .ref bd), (5, .int (nI i))]) hx hb dLaw_law_1403 hl (by decide) rfl (fun ls hl => ?_)
  refine lv_aload_n hx hb dLaw_law_1405 rfl (lv_at hl 4 rfl) ?_
  refine l_modI (As := []) (rest := []) X J2 (cm_thrown l Dm cm μ (lB lo hm) τ2 (τ2.1 0, τ2) rfl) mwl_thrown ⟨rfl, rfl⟩ ⟨Nat.le_of_ble_eq_true rfl, Nat.le_of_ble_eq_true rfl⟩ rfl rfl (cats_le _ (Nat.le_of_ble_eq_true rfl)) hl.1 dLaw_law_1406 ⟨Nat.le_trans (Nat.add_le_add_left (Nat.le_of_ble_eq_true rfl) _) hcl, Nat.le_trans (Nat.add_le_add_left (Nat.le_of_ble_eq_true rfl) _) hsl⟩ (fun H3 locs3 J3 => ?_)
  refine lv_iload hx hb dLaw_law_1409 (lv_at hl 1 rfl) ?_
  refine lv_icmp_eq (tgt := 1416) hx hb dLaw_law_1411 (by decide) (fun _ => ?_) (fun q => absurd hth q)
  refine lv_iload hx hb dLaw_law_1416 (lv_at hl 1 rfl) ?_
  have fin : W p l e room_1 s m #[Value.ref b] below meth c H3 locs3 (cells + 12) (slots + 700) Q (F0 m 3212 ls []) := kk g1 σ1 τ2 α1 _ fd H3 locs3 ls hR1 J3 (lv_sub hl [2, 3, 4, 5, 6, 7] rfl)
  refine W.widen (k := cells + 12) (n := slots + 700) (Nat.add_le_add_left (Nat.le_of_ble_eq_true rfl) _) (Nat.add_le_add_left (Nat.le_of_ble_eq_true rfl) _) ?_
  refine lv_if_ne (tgt := 1433) hx hb dLaw_law_1418 (by decide) (fun q => ?_) (fun q => ?_)
  · refine lv_goto (tgt := 3212) hx hb dLaw_law_1433 (by decide) ?_
    exact fin
  · rcases hrr with ⟨k0, rfl⟩ | ⟨k0, k1⟩
    · refine lv_aload_n hx hb dLaw_law_1421 rfl (lv_at hl 5 rfl) ?_
      refine lv_iconst (v := (0 : Int32)) hx hb dLaw_law_1422 (by decide) ?_
      refine va_lald hx hb X.2.2.1.2.2.1 J3.2.2.1.1 0 0 rfl rfl vp01 dLaw_law_1423 ?_
      refine lv_iload hx hb dLaw_law_1424 (lv_at hl 0 rfl) ?_
      refine lv_i2l hx hb dLaw_law_1426 rfl ?_
      refine W.lcmp hx hb dLaw_law_1427 ?_
      refine lv_if_eq (tgt := 1433) hx hb dLaw_law_1428 (by decide) (fun _ => ?_) (fun q => absurd (lg0.mpr (rfl)) q)
      refine lv_goto (tgt := 3212) hx hb dLaw_law_1433 (by decide) ?_
      exact fin
    · exact absurd q (nz_k k0 k1)
theorem lw_isBright : lCallS 260 yLaw_isBright cLaw_isBright 3 (lHh [2] 15 (fun j => ([18] : List Nat).getD j 0)) 2 := ⟨⟨wl_in (i := 1201) (by decide +kernel), wl_in (i := 1202) (by decide +kernel), wl_in (i := 0) (by decide +kernel), wl_in (i := 1203) (by decide +kernel)⟩, by decide, by decide, by decide +kernel⟩
theorem mwl_isBright : cCallV RV 262 RX12 yX12_isBright cX12_isBright 1 (some .boolean) 0 := ⟨⟨wl_in (i := 2213) (by decide +kernel), wl_in (i := 2214) (by decide +kernel), wl_in (i := 2215) (by decide +kernel), wl_in (i := 16) (by decide +kernel), wl_in (i := 2216) (by decide +kernel)⟩, rfl, by decide, by decide, by decide +kernel⟩
set_option maxHeartbeats 4000000 in
set_option maxRecDepth 100000 in
theorem lc_isBright {p : Program} {l : Launch} {e : Env} {s : State} {m : MethodId} {below : List Frame} {meth : Method} {c : Code} {H : Heap} {locs : List Loc} {cells slots : Nat} {Q : State → Prop} {b L : Nat} {xs : Nat → Int32} {ls : Array Slot} {D Dm : va_G} {ca cm : Nat → ClassId} {cO cOd : ClassId} {α0 α : cAl} {lo hm hi bo bd : Nat} {μ : Nat → Nat} {g : Gm} {σ : cS} {τ : mS} {f : Nat → Int64} {fd : Nat → UInt64} {i : Nat} (hst : l.stackTraces = false) (hL : L ≤ 2560) (X : lX p s m c b L xs D Dm ca cm cO cOd α0 lo hm hi bo bd) (J : lJ s D Dm ca cm cO cOd α0 lo hm hi bo bd μ σ τ α f fd H locs) (hR : Rel g σ τ) (h5 : i + 5 ≤ L) (hl : lv_has ls 9 [(0, .ref b), (1, .ref (α0 0 0)), (2, .ref (μ 0)), (3, .ref bo), (4, .ref bd), (5, .int (nI i))]) (hcl : cells + 12 ≤ room_1.cells) (hsl : slots + 700 ≤ room_1.slots)
    (kk : ∀ (g' : Gm) (σ' : cS) (τ' : mS) (α' : cAl) (f' : Nat → Int64) (fd' : Nat → UInt64) (H' : Heap) (locs' : List Loc) (ls' : Array Slot), Rel g' σ' τ' → lJ s D Dm ca cm cO cOd α0 lo hm hi bo bd μ σ' τ' α' f' fd' H' locs' → lv_has ls' 9 [(0, .ref b), (1, .ref (α0 0 0)), (2, .ref (μ 0)), (3, .ref bo), (4, .ref bd), (5, .int (nI i))] → W p l e room_1 s m #[Value.ref b] below meth c H' locs' (cells + 12) (slots + 700) Q (F0 m 3212 ls' [])) :
    W p l e room_1 s m #[Value.ref b] below meth c H locs cells slots Q (F0 m 1436 ls []) := by
  obtain ⟨hx, hb, -, -, -⟩ := id X.1
  obtain ⟨hbo, -⟩ := l_nbo X
  obtain ⟨h17, -⟩ := l_n17 X J
  obtain ⟨g1, r, σ1, v, τ2, hfc, hfm, hagr, hR1⟩ := meth_isBright hR 
  obtain ⟨j, hj1, hth, hrr⟩ := hagr.use (by decide)
  refine lv_aload_n hx hb dLaw_law_1436 rfl (lv_at hl 1 rfl) ?_
  refine lv_aload_n hx hb dLaw_law_1437 rfl (lv_at hl 3 rfl) ?_
  refine l_wr (As := [.ref bo]) (rest := []) X J (cv_isBright l hst D ca (lA s.heap.size lo hi) bo cO α σ f hbo h17  (r, σ1) hfc j hj1) lw_isBright ⟨rfl, rfl⟩ ⟨Nat.le_of_ble_eq_true rfl, Nat.le_of_ble_eq_true rfl⟩ rfl rfl (cats_le _ (Nat.le_of_ble_eq_true rfl)) hl.1 dLaw_law_1438 ⟨Nat.le_trans (Nat.add_le_add_left (Nat.le_of_ble_eq_true rfl) _) hcl, Nat.le_trans (Nat.add_le_add_left (Nat.le_of_ble_eq_true rfl) _) hsl⟩ (fun α1 H1 locs1 J1 => ?_)
  refine lv_istore (lv' := [(6, .int (nI (lK j r))), (0, .ref b), (1, .ref (α0 0 0)), (2, .ref (μ 0)), (3, .ref bo), (4, .ref bd), (5, .int (nI i))]) hx hb dLaw_law_1441 hl (by decide) rfl (fun ls hl => ?_)
  refine lv_aload_n hx hb dLaw_law_1443 rfl (lv_at hl 3 rfl) ?_
  refine l_modI (As := []) (rest := []) X J1 (cm_isBright l Dm cm μ (lB lo hm) τ  (v, τ2) hfm) mwl_isBright ⟨rfl, rfl⟩ ⟨Nat.le_of_ble_eq_true rfl, Nat.le_of_ble_eq_true rfl⟩ rfl rfl (cats_le _ (Nat.le_of_ble_eq_true rfl)) hl.1 dLaw_law_1444 ⟨Nat.le_trans (Nat.add_le_add_left (Nat.le_of_ble_eq_true rfl) _) hcl, Nat.le_trans (Nat.add_le_add_left (Nat.le_of_ble_eq_true rfl) _) hsl⟩ (fun H2 locs2 J2 => ?_)
  refine lv_istore (lv' := [(7, .int v), (6, .int (nI (lK j r))), (0, .ref b), (1, .ref (α0 0 0)), (2, .ref (μ 0)), (3, .ref bo), (4, .ref bd), (5, .int (nI i))]) hx hb dLaw_law_1447 hl (by decide) rfl (fun ls hl => ?_)
  refine lv_aload_n hx hb dLaw_law_1449 rfl (lv_at hl 4 rfl) ?_
  refine l_modI (As := []) (rest := []) X J2 (cm_thrown l Dm cm μ (lB lo hm) τ2 (τ2.1 0, τ2) rfl) mwl_thrown ⟨rfl, rfl⟩ ⟨Nat.le_of_ble_eq_true rfl, Nat.le_of_ble_eq_true rfl⟩ rfl rfl (cats_le _ (Nat.le_of_ble_eq_true rfl)) hl.1 dLaw_law_1450 ⟨Nat.le_trans (Nat.add_le_add_left (Nat.le_of_ble_eq_true rfl) _) hcl, Nat.le_trans (Nat.add_le_add_left (Nat.le_of_ble_eq_true rfl) _) hsl⟩ (fun H3 locs3 J3 => ?_)
  refine lv_iload hx hb dLaw_law_1453 (lv_at hl 1 rfl) ?_
  refine lv_icmp_eq (tgt := 1460) hx hb dLaw_law_1455 (by decide) (fun _ => ?_) (fun q => absurd hth q)
  refine lv_iload hx hb dLaw_law_1460 (lv_at hl 1 rfl) ?_
  have fin : W p l e room_1 s m #[Value.ref b] below meth c H3 locs3 (cells + 12) (slots + 700) Q (F0 m 3212 ls []) := kk g1 σ1 τ2 α1 _ fd H3 locs3 ls hR1 J3 (lv_sub hl [2, 3, 4, 5, 6, 7] rfl)
  refine W.widen (k := cells + 12) (n := slots + 700) (Nat.add_le_add_left (Nat.le_of_ble_eq_true rfl) _) (Nat.add_le_add_left (Nat.le_of_ble_eq_true rfl) _) ?_
  refine lv_if_ne (tgt := 1484) hx hb dLaw_law_1462 (by decide) (fun q => ?_) (fun q => ?_)
  · refine lv_goto (tgt := 3212) hx hb dLaw_law_1484 (by decide) ?_
    exact fin
  · rcases hrr with ⟨k0, rfl⟩ | ⟨k0, k1⟩
    · refine lv_aload_n hx hb dLaw_law_1465 rfl (lv_at hl 5 rfl) ?_
      refine lv_iconst (v := (0 : Int32)) hx hb dLaw_law_1466 (by decide) ?_
      refine va_lald hx hb X.2.2.1.2.2.1 J3.2.2.1.1 0 0 rfl rfl vp01 dLaw_law_1467 ?_
      refine lv_iload hx hb dLaw_law_1468 (lv_at hl 0 rfl) ?_
      refine lv_if_eq (tgt := 1477) hx hb dLaw_law_1470 (by decide) (fun q1 => ?_) (fun q1 => ?_)
      · refine lv_lconst (v := (0 : Int64)) hx hb dLaw_law_1477 (by decide) ?_
        refine W.lcmp hx hb dLaw_law_1478 ?_
        refine lv_if_eq (tgt := 1484) hx hb dLaw_law_1479 (by decide) (fun _ => ?_) (fun q => absurd (lg0.mpr (show (if v = 0 then (0 : Int64) else 1) = 0 from if_pos q1)) q)
        refine lv_goto (tgt := 3212) hx hb dLaw_law_1484 (by decide) ?_
        exact fin
      · refine lv_lconst (v := (1 : Int64)) hx hb dLaw_law_1473 (by decide) ?_
        refine lv_goto (tgt := 1478) hx hb dLaw_law_1474 (by decide) ?_
        refine W.lcmp hx hb dLaw_law_1478 ?_
        refine lv_if_eq (tgt := 1484) hx hb dLaw_law_1479 (by decide) (fun _ => ?_) (fun q => absurd (lg0.mpr (show (if v = 0 then (0 : Int64) else 1) = 1 from if_neg q1)) q)
        refine lv_goto (tgt := 3212) hx hb dLaw_law_1484 (by decide) ?_
        exact fin
    · exact absurd q (nz_k k0 k1)
theorem lw_weight : lCallS 263 yLaw_weight cLaw_weight 3 (lHh [2] 8 (fun j => ([11] : List Nat).getD j 0)) 2 := ⟨⟨wl_in (i := 1209) (by decide +kernel), wl_in (i := 1210) (by decide +kernel), wl_in (i := 0) (by decide +kernel), wl_in (i := 1211) (by decide +kernel)⟩, by decide, by decide, by decide +kernel⟩
theorem mwl_weight : cCallV RV 265 RX12 yX12_weight cX12_weight 1 (some .int) 0 := ⟨⟨wl_in (i := 2217) (by decide +kernel), wl_in (i := 2218) (by decide +kernel), wl_in (i := 2219) (by decide +kernel), wl_in (i := 16) (by decide +kernel), wl_in (i := 2220) (by decide +kernel)⟩, rfl, by decide, by decide, by decide +kernel⟩
set_option maxHeartbeats 4000000 in
set_option maxRecDepth 100000 in
theorem lc_weight {p : Program} {l : Launch} {e : Env} {s : State} {m : MethodId} {below : List Frame} {meth : Method} {c : Code} {H : Heap} {locs : List Loc} {cells slots : Nat} {Q : State → Prop} {b L : Nat} {xs : Nat → Int32} {ls : Array Slot} {D Dm : va_G} {ca cm : Nat → ClassId} {cO cOd : ClassId} {α0 α : cAl} {lo hm hi bo bd : Nat} {μ : Nat → Nat} {g : Gm} {σ : cS} {τ : mS} {f : Nat → Int64} {fd : Nat → UInt64} {i : Nat} (hst : l.stackTraces = false) (hL : L ≤ 2560) (X : lX p s m c b L xs D Dm ca cm cO cOd α0 lo hm hi bo bd) (J : lJ s D Dm ca cm cO cOd α0 lo hm hi bo bd μ σ τ α f fd H locs) (hR : Rel g σ τ) (h5 : i + 5 ≤ L) (hl : lv_has ls 9 [(0, .ref b), (1, .ref (α0 0 0)), (2, .ref (μ 0)), (3, .ref bo), (4, .ref bd), (5, .int (nI i))]) (hcl : cells + 12 ≤ room_1.cells) (hsl : slots + 700 ≤ room_1.slots)
    (kk : ∀ (g' : Gm) (σ' : cS) (τ' : mS) (α' : cAl) (f' : Nat → Int64) (fd' : Nat → UInt64) (H' : Heap) (locs' : List Loc) (ls' : Array Slot), Rel g' σ' τ' → lJ s D Dm ca cm cO cOd α0 lo hm hi bo bd μ σ' τ' α' f' fd' H' locs' → lv_has ls' 9 [(0, .ref b), (1, .ref (α0 0 0)), (2, .ref (μ 0)), (3, .ref bo), (4, .ref bd), (5, .int (nI i))] → W p l e room_1 s m #[Value.ref b] below meth c H' locs' (cells + 12) (slots + 700) Q (F0 m 3212 ls' [])) :
    W p l e room_1 s m #[Value.ref b] below meth c H locs cells slots Q (F0 m 1487 ls []) := by
  obtain ⟨hx, hb, -, -, -⟩ := id X.1
  obtain ⟨hbo, -⟩ := l_nbo X
  obtain ⟨h17, -⟩ := l_n17 X J
  obtain ⟨g1, r, σ1, v, τ2, hfc, hfm, hagr, hR1⟩ := meth_weight hR 
  obtain ⟨j, hj1, hth, hrr⟩ := hagr.use (by decide)
  refine lv_aload_n hx hb dLaw_law_1487 rfl (lv_at hl 1 rfl) ?_
  refine lv_aload_n hx hb dLaw_law_1488 rfl (lv_at hl 3 rfl) ?_
  refine l_wr (As := [.ref bo]) (rest := []) X J (cv_weight l hst D ca (lA s.heap.size lo hi) bo cO α σ f hbo h17  (r, σ1) hfc j hj1) lw_weight ⟨rfl, rfl⟩ ⟨Nat.le_of_ble_eq_true rfl, Nat.le_of_ble_eq_true rfl⟩ rfl rfl (cats_le _ (Nat.le_of_ble_eq_true rfl)) hl.1 dLaw_law_1489 ⟨Nat.le_trans (Nat.add_le_add_left (Nat.le_of_ble_eq_true rfl) _) hcl, Nat.le_trans (Nat.add_le_add_left (Nat.le_of_ble_eq_true rfl) _) hsl⟩ (fun α1 H1 locs1 J1 => ?_)
  refine lv_istore (lv' := [(6, .int (nI (lK j r))), (0, .ref b), (1, .ref (α0 0 0)), (2, .ref (μ 0)), (3, .ref bo), (4, .ref bd), (5, .int (nI i))]) hx hb dLaw_law_1492 hl (by decide) rfl (fun ls hl => ?_)
  refine lv_aload_n hx hb dLaw_law_1494 rfl (lv_at hl 3 rfl) ?_
  refine l_modI (As := []) (rest := []) X J1 (cm_weight l Dm cm μ (lB lo hm) τ  (v, τ2) hfm) mwl_weight ⟨rfl, rfl⟩ ⟨Nat.le_of_ble_eq_true rfl, Nat.le_of_ble_eq_true rfl⟩ rfl rfl (cats_le _ (Nat.le_of_ble_eq_true rfl)) hl.1 dLaw_law_1495 ⟨Nat.le_trans (Nat.add_le_add_left (Nat.le_of_ble_eq_true rfl) _) hcl, Nat.le_trans (Nat.add_le_add_left (Nat.le_of_ble_eq_true rfl) _) hsl⟩ (fun H2 locs2 J2 => ?_)
  refine lv_istore (lv' := [(7, .int v), (6, .int (nI (lK j r))), (0, .ref b), (1, .ref (α0 0 0)), (2, .ref (μ 0)), (3, .ref bo), (4, .ref bd), (5, .int (nI i))]) hx hb dLaw_law_1498 hl (by decide) rfl (fun ls hl => ?_)
  refine lv_aload_n hx hb dLaw_law_1500 rfl (lv_at hl 4 rfl) ?_
  refine l_modI (As := []) (rest := []) X J2 (cm_thrown l Dm cm μ (lB lo hm) τ2 (τ2.1 0, τ2) rfl) mwl_thrown ⟨rfl, rfl⟩ ⟨Nat.le_of_ble_eq_true rfl, Nat.le_of_ble_eq_true rfl⟩ rfl rfl (cats_le _ (Nat.le_of_ble_eq_true rfl)) hl.1 dLaw_law_1501 ⟨Nat.le_trans (Nat.add_le_add_left (Nat.le_of_ble_eq_true rfl) _) hcl, Nat.le_trans (Nat.add_le_add_left (Nat.le_of_ble_eq_true rfl) _) hsl⟩ (fun H3 locs3 J3 => ?_)
  refine lv_iload hx hb dLaw_law_1504 (lv_at hl 1 rfl) ?_
  refine lv_icmp_eq (tgt := 1511) hx hb dLaw_law_1506 (by decide) (fun _ => ?_) (fun q => absurd hth q)
  refine lv_iload hx hb dLaw_law_1511 (lv_at hl 1 rfl) ?_
  have fin : W p l e room_1 s m #[Value.ref b] below meth c H3 locs3 (cells + 12) (slots + 700) Q (F0 m 3212 ls []) := kk g1 σ1 τ2 α1 _ fd H3 locs3 ls hR1 J3 (lv_sub hl [2, 3, 4, 5, 6, 7] rfl)
  refine W.widen (k := cells + 12) (n := slots + 700) (Nat.add_le_add_left (Nat.le_of_ble_eq_true rfl) _) (Nat.add_le_add_left (Nat.le_of_ble_eq_true rfl) _) ?_
  refine lv_if_ne (tgt := 1528) hx hb dLaw_law_1513 (by decide) (fun q => ?_) (fun q => ?_)
  · refine lv_goto (tgt := 3212) hx hb dLaw_law_1528 (by decide) ?_
    exact fin
  · rcases hrr with ⟨k0, rfl⟩ | ⟨k0, k1⟩
    · refine lv_aload_n hx hb dLaw_law_1516 rfl (lv_at hl 5 rfl) ?_
      refine lv_iconst (v := (0 : Int32)) hx hb dLaw_law_1517 (by decide) ?_
      refine va_lald hx hb X.2.2.1.2.2.1 J3.2.2.1.1 0 0 rfl rfl vp01 dLaw_law_1518 ?_
      refine lv_iload hx hb dLaw_law_1519 (lv_at hl 0 rfl) ?_
      refine lv_i2l hx hb dLaw_law_1521 rfl ?_
      refine W.lcmp hx hb dLaw_law_1522 ?_
      refine lv_if_eq (tgt := 1528) hx hb dLaw_law_1523 (by decide) (fun _ => ?_) (fun q => absurd (lg0.mpr (rfl)) q)
      refine lv_goto (tgt := 3212) hx hb dLaw_law_1528 (by decide) ?_
      exact fin
    · exact absurd q (nz_k k0 k1)
