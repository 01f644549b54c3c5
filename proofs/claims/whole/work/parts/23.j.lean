/-! The law's cases: shares and means; calls that throw nothing. -/
theorem lw_knownShare : lCallS 359 yLaw_knownShare cLaw_knownShare 3 (lHh [2, 6] 8 (fun j => ([11, 14] : List Nat).getD j 0)) 2 := ⟨⟨wl_in (i := 1808) (by decide +kernel), wl_in (i := 1809) (by decide +kernel), wl_in (i := 0) (by decide +kernel), wl_in (i := 1810) (by decide +kernel)⟩, by decide, by decide, by decide +kernel⟩
theorem mwl_knownShare : cCallV RV 362 RX12 yX12_knownShare cX12_knownShare 1 (some .float) 0 := ⟨⟨wl_in (i := 2412) (by decide +kernel), wl_in (i := 2413) (by decide +kernel), wl_in (i := 2414) (by decide +kernel), wl_in (i := 16) (by decide +kernel), wl_in (i := 2415) (by decide +kernel)⟩, rfl, by decide, by decide, by decide +kernel⟩
set_option maxHeartbeats 4000000 in
set_option maxRecDepth 100000 in
theorem lc_knownShare {p : Program} {l : Launch} {e : Env} {s : State} {m : MethodId} {below : List Frame} {meth : Method} {c : Code} {H : Heap} {locs : List Loc} {cells slots : Nat} {Q : State → Prop} {b L : Nat} {xs : Nat → Int32} {ls : Array Slot} {D Dm : va_G} {ca cm : Nat → ClassId} {cO cOd : ClassId} {α0 α : cAl} {lo hm hi bo bd : Nat} {μ : Nat → Nat} {g : Gm} {σ : cS} {τ : mS} {f : Nat → Int64} {fd : Nat → UInt64} {i : Nat} (hst : l.stackTraces = false) (hL : L ≤ 2560) (X : lX p s m c b L xs D Dm ca cm cO cOd α0 lo hm hi bo bd) (J : lJ s D Dm ca cm cO cOd α0 lo hm hi bo bd μ σ τ α f fd H locs) (hR : Rel g σ τ) (h5 : i + 5 ≤ L) (hl : lv_has ls 9 [(0, .ref b), (1, .ref (α0 0 0)), (2, .ref (μ 0)), (3, .ref bo), (4, .ref bd), (5, .int (nI i))]) (hcl : cells + 12 ≤ room_1.cells) (hsl : slots + 700 ≤ room_1.slots)
    (kk : ∀ (g' : Gm) (σ' : cS) (τ' : mS) (α' : cAl) (f' : Nat → Int64) (fd' : Nat → UInt64) (H' : Heap) (locs' : List Loc) (ls' : Array Slot), Rel g' σ' τ' → lJ s D Dm ca cm cO cOd α0 lo hm hi bo bd μ σ' τ' α' f' fd' H' locs' → lv_has ls' 9 [(0, .ref b), (1, .ref (α0 0 0)), (2, .ref (μ 0)), (3, .ref bo), (4, .ref bd), (5, .int (nI i))] → W p l e room_1 s m #[Value.ref b] below meth c H' locs' (cells + 12) (slots + 700) Q (F0 m 3212 ls' [])) :
    W p l e room_1 s m #[Value.ref b] below meth c H locs cells slots Q (F0 m 3068 ls []) := by
  obtain ⟨hx, hb, -, -, -⟩ := id X.1
  obtain ⟨-, hbo⟩ := l_nbo X
  obtain ⟨-, h17⟩ := l_n17 X J
  obtain ⟨g1, r, σ1, v, τ2, j, hfc, hfm, hj1, hth, hrr, hR1⟩ := (meth_knownShare hR).use (by decide)
  have hne : ∀ x, r = .inr x → vf_n64 (FP.f2d x) := fun x hx => by
    rcases hrr with ⟨k0, h1, h2⟩ | ⟨k0, k1⟩
    · rw [h1] at hx; cases hx; exact (share_f2d h2).1
    · rw [hx] at k0; exact absurd k0 (Nat.lt_irrefl 0)
  refine lv_aload_n hx hb dLaw_law_3068 rfl (lv_at hl 1 rfl) ?_
  refine lv_aload hx hb dLaw_law_3069 (lv_at hl 4 rfl) ?_
  refine l_wrD (As := [.ref bd]) (rest := []) X J (cv_knownShare l hst D ca (lA s.heap.size lo hi) bd cOd α σ fd hbo h17 (r, σ1) hfc hne j hj1) lw_knownShare ⟨rfl, rfl⟩ ⟨Nat.le_of_ble_eq_true rfl, Nat.le_of_ble_eq_true rfl⟩ rfl rfl (cats_le _ (Nat.le_of_ble_eq_true rfl)) hl.1 dLaw_law_3071 ⟨Nat.le_trans (Nat.add_le_add_left (Nat.le_of_ble_eq_true rfl) _) hcl, Nat.le_trans (Nat.add_le_add_left (Nat.le_of_ble_eq_true rfl) _) hsl⟩ (fun α1 H1 locs1 J1 => ?_)
  refine lv_istore (lv' := [(6, .int (nI (lK j r))), (0, .ref b), (1, .ref (α0 0 0)), (2, .ref (μ 0)), (3, .ref bo), (4, .ref bd), (5, .int (nI i))]) hx hb dLaw_law_3074 hl (by decide) rfl (fun ls hl => ?_)
  refine lv_aload_n hx hb dLaw_law_3076 rfl (lv_at hl 3 rfl) ?_
  refine l_modF (As := []) (rest := []) X J1 (cm_knownShare l Dm cm μ (lB lo hm) τ (v, τ2) hfm) mwl_knownShare ⟨rfl, rfl⟩ ⟨Nat.le_of_ble_eq_true rfl, Nat.le_of_ble_eq_true rfl⟩ rfl rfl (cats_le _ (Nat.le_of_ble_eq_true rfl)) hl.1 dLaw_law_3077 ⟨Nat.le_trans (Nat.add_le_add_left (Nat.le_of_ble_eq_true rfl) _) hcl, Nat.le_trans (Nat.add_le_add_left (Nat.le_of_ble_eq_true rfl) _) hsl⟩ (fun H2 locs2 J2 => ?_)
  refine lv_fstore (lv' := [(7, .float v), (6, .int (nI (lK j r))), (0, .ref b), (1, .ref (α0 0 0)), (2, .ref (μ 0)), (3, .ref bo), (4, .ref bd), (5, .int (nI i))]) hx hb dLaw_law_3080 hl (by decide) rfl (fun ls hl => ?_)
  refine lv_aload_n hx hb dLaw_law_3082 rfl (lv_at hl 4 rfl) ?_
  refine l_modI (As := []) (rest := []) X J2 (cm_thrown l Dm cm μ (lB lo hm) τ2 (τ2.1 0, τ2) rfl) mwl_thrown ⟨rfl, rfl⟩ ⟨Nat.le_of_ble_eq_true rfl, Nat.le_of_ble_eq_true rfl⟩ rfl rfl (cats_le _ (Nat.le_of_ble_eq_true rfl)) hl.1 dLaw_law_3083 ⟨Nat.le_trans (Nat.add_le_add_left (Nat.le_of_ble_eq_true rfl) _) hcl, Nat.le_trans (Nat.add_le_add_left (Nat.le_of_ble_eq_true rfl) _) hsl⟩ (fun H3 locs3 J3 => ?_)
  refine lv_iload hx hb dLaw_law_3086 (lv_at hl 1 rfl) ?_
  refine lv_icmp_eq (tgt := 3093) hx hb dLaw_law_3088 (by decide) (fun _ => ?_) (fun q => absurd hth q)
  refine lv_iload hx hb dLaw_law_3093 (lv_at hl 1 rfl) ?_
  have fin : W p l e room_1 s m #[Value.ref b] below meth c H3 locs3 (cells + 12) (slots + 700) Q (F0 m 3212 ls []) := kk g1 σ1 τ2 α1 f _ H3 locs3 ls hR1 J3 (lv_sub hl [2, 3, 4, 5, 6, 7] rfl)
  refine W.widen (k := cells + 12) (n := slots + 700) (Nat.add_le_add_left (Nat.le_of_ble_eq_true rfl) _) (Nat.add_le_add_left (Nat.le_of_ble_eq_true rfl) _) ?_
  refine lv_if_ne (tgt := 3131) hx hb dLaw_law_3095 (by decide) (fun q => ?_) (fun q => ?_)
  · refine lv_goto (tgt := 3212) hx hb dLaw_law_3131 (by decide) ?_
    exact fin
  · rcases hrr with ⟨k0, rfl, hP⟩ | ⟨k0, k1⟩
    · refine lv_aload hx hb dLaw_law_3098 (lv_at hl 6 rfl) ?_
      refine lv_iconst (v := (0 : Int32)) hx hb dLaw_law_3100 (by decide) ?_
      refine va_dald hx hb X.2.2.1.2.2.2 J3.2.2.1.2 0 0 rfl rfl vp01 dLaw_law_3101 ?_
      refine lv_fload hx hb dLaw_law_3102 (lv_at hl 0 rfl) ?_
      refine lv_f2d hx hb dLaw_law_3104 (share_f2d hP).1 ?_
      refine lv_dcmp hx hb dLaw_law_3105 ?_
      refine lv_if_eq (tgt := 3131) hx hb dLaw_law_3106 (by decide) (fun _ => ?_) (fun q => absurd (show Op.cmpValue (FP.dcmp (FP.f2d v) (FP.f2d v)) _ = 0 by rw [(share_f2d hP).2]; rfl) q)
      refine lv_goto (tgt := 3212) hx hb dLaw_law_3131 (by decide) ?_
      exact fin
    · exact absurd q (nz_k k0 k1)
theorem lw_meanPrice : lCallS 363 yLaw_meanPrice cLaw_meanPrice 3 (lHh [5] 7 (fun j => ([10] : List Nat).getD j 0)) 2 := ⟨⟨wl_in (i := 1832) (by decide +kernel), wl_in (i := 1833) (by decide +kernel), wl_in (i := 0) (by decide +kernel), wl_in (i := 1834) (by decide +kernel)⟩, by decide, by decide, by decide +kernel⟩
theorem mwl_meanPrice : cCallV RV 365 RX12 yX12_meanPrice cX12_meanPrice 3 (some .double) 0 := ⟨⟨wl_in (i := 2416) (by decide +kernel), wl_in (i := 2417) (by decide +kernel), wl_in (i := 2418) (by decide +kernel), wl_in (i := 16) (by decide +kernel), wl_in (i := 2419) (by decide +kernel)⟩, rfl, by decide, by decide, by decide +kernel⟩
set_option maxHeartbeats 4000000 in
set_option maxRecDepth 100000 in
theorem lc_meanPrice {p : Program} {l : Launch} {e : Env} {s : State} {m : MethodId} {below : List Frame} {meth : Method} {c : Code} {H : Heap} {locs : List Loc} {cells slots : Nat} {Q : State → Prop} {b L : Nat} {xs : Nat → Int32} {ls : Array Slot} {D Dm : va_G} {ca cm : Nat → ClassId} {cO cOd : ClassId} {α0 α : cAl} {lo hm hi bo bd : Nat} {μ : Nat → Nat} {g : Gm} {σ : cS} {τ : mS} {f : Nat → Int64} {fd : Nat → UInt64} {i : Nat} (hst : l.stackTraces = false) (hL : L ≤ 2560) (X : lX p s m c b L xs D Dm ca cm cO cOd α0 lo hm hi bo bd) (J : lJ s D Dm ca cm cO cOd α0 lo hm hi bo bd μ σ τ α f fd H locs) (hR : Rel g σ τ) (h5 : i + 5 ≤ L) (hl : lv_has ls 9 [(0, .ref b), (1, .ref (α0 0 0)), (2, .ref (μ 0)), (3, .ref bo), (4, .ref bd), (5, .int (nI i))]) (hcl : cells + 12 ≤ room_1.cells) (hsl : slots + 700 ≤ room_1.slots)
    (kk : ∀ (g' : Gm) (σ' : cS) (τ' : mS) (α' : cAl) (f' : Nat → Int64) (fd' : Nat → UInt64) (H' : Heap) (locs' : List Loc) (ls' : Array Slot), Rel g' σ' τ' → lJ s D Dm ca cm cO cOd α0 lo hm hi bo bd μ σ' τ' α' f' fd' H' locs' → lv_has ls' 9 [(0, .ref b), (1, .ref (α0 0 0)), (2, .ref (μ 0)), (3, .ref bo), (4, .ref bd), (5, .int (nI i))] → W p l e room_1 s m #[Value.ref b] below meth c H' locs' (cells + 12) (slots + 700) Q (F0 m 3212 ls' [])) :
    W p l e room_1 s m #[Value.ref b] below meth c H locs cells slots Q (F0 m 3134 ls []) := by
  obtain ⟨hx, hb, -, -, -⟩ := id X.1
  obtain ⟨-, hbo⟩ := l_nbo X
  obtain ⟨-, h17⟩ := l_n17 X J
  obtain ⟨g1, r, σ1, v, τ2, j, hfc, hfm, hj1, hth, hrr, hR1⟩ := (meth_meanPrice hR).use (by decide)
  refine lv_aload_n hx hb dLaw_law_3134 rfl (lv_at hl 1 rfl) ?_
  refine lv_aload hx hb dLaw_law_3135 (lv_at hl 4 rfl) ?_
  refine l_wrD (As := [.ref bd]) (rest := []) X J (cv_meanPrice l hst D ca (lA s.heap.size lo hi) bd cOd α σ fd hbo h17 (r, σ1) hfc j hj1) lw_meanPrice ⟨rfl, rfl⟩ ⟨Nat.le_of_ble_eq_true rfl, Nat.le_of_ble_eq_true rfl⟩ rfl rfl (cats_le _ (Nat.le_of_ble_eq_true rfl)) hl.1 dLaw_law_3137 ⟨Nat.le_trans (Nat.add_le_add_left (Nat.le_of_ble_eq_true rfl) _) hcl, Nat.le_trans (Nat.add_le_add_left (Nat.le_of_ble_eq_true rfl) _) hsl⟩ (fun α1 H1 locs1 J1 => ?_)
  refine lv_istore (lv' := [(6, .int (nI (lK j r))), (0, .ref b), (1, .ref (α0 0 0)), (2, .ref (μ 0)), (3, .ref bo), (4, .ref bd), (5, .int (nI i))]) hx hb dLaw_law_3140 hl (by decide) rfl (fun ls hl => ?_)
  refine lv_aload_n hx hb dLaw_law_3142 rfl (lv_at hl 3 rfl) ?_
  refine l_modD (As := []) (rest := []) X J1 (cm_meanPrice l Dm cm μ (lB lo hm) τ (v, τ2) hfm) mwl_meanPrice ⟨rfl, rfl⟩ ⟨Nat.le_of_ble_eq_true rfl, Nat.le_of_ble_eq_true rfl⟩ rfl rfl (cats_le _ (Nat.le_of_ble_eq_true rfl)) hl.1 dLaw_law_3143 ⟨Nat.le_trans (Nat.add_le_add_left (Nat.le_of_ble_eq_true rfl) _) hcl, Nat.le_trans (Nat.add_le_add_left (Nat.le_of_ble_eq_true rfl) _) hsl⟩ (fun H2 locs2 J2 => ?_)
  refine lv_dstore (lv' := [(7, .double v), (6, .int (nI (lK j r))), (0, .ref b), (1, .ref (α0 0 0)), (2, .ref (μ 0)), (3, .ref bo), (4, .ref bd), (5, .int (nI i))]) hx hb dLaw_law_3146 hl (by decide) rfl (fun ls hl => ?_)
  refine lv_aload_n hx hb dLaw_law_3148 rfl (lv_at hl 4 rfl) ?_
  refine l_modI (As := []) (rest := []) X J2 (cm_thrown l Dm cm μ (lB lo hm) τ2 (τ2.1 0, τ2) rfl) mwl_thrown ⟨rfl, rfl⟩ ⟨Nat.le_of_ble_eq_true rfl, Nat.le_of_ble_eq_true rfl⟩ rfl rfl (cats_le _ (Nat.le_of_ble_eq_true rfl)) hl.1 dLaw_law_3149 ⟨Nat.le_trans (Nat.add_le_add_left (Nat.le_of_ble_eq_true rfl) _) hcl, Nat.le_trans (Nat.add_le_add_left (Nat.le_of_ble_eq_true rfl) _) hsl⟩ (fun H3 locs3 J3 => ?_)
  refine lv_iload hx hb dLaw_law_3152 (lv_at hl 1 rfl) ?_
  refine lv_icmp_eq (tgt := 3159) hx hb dLaw_law_3154 (by decide) (fun _ => ?_) (fun q => absurd hth q)
  refine lv_iload hx hb dLaw_law_3159 (lv_at hl 1 rfl) ?_
  have fin : W p l e room_1 s m #[Value.ref b] below meth c H3 locs3 (cells + 12) (slots + 700) Q (F0 m 3212 ls []) := kk g1 σ1 τ2 α1 f _ H3 locs3 ls hR1 J3 (lv_sub hl [2, 3, 4, 5, 6, 7] rfl)
  refine W.widen (k := cells + 12) (n := slots + 700) (Nat.add_le_add_left (Nat.le_of_ble_eq_true rfl) _) (Nat.add_le_add_left (Nat.le_of_ble_eq_true rfl) _) ?_
  refine lv_if_ne (tgt := 3196) hx hb dLaw_law_3161 (by decide) (fun q => ?_) (fun q => ?_)
  · refine lv_goto (tgt := 3212) hx hb dLaw_law_3196 (by decide) ?_
    exact fin
  · rcases hrr with ⟨k0, rfl, hP⟩ | ⟨k0, k1⟩
    · refine lv_aload hx hb dLaw_law_3164 (lv_at hl 6 rfl) ?_
      refine lv_iconst (v := (0 : Int32)) hx hb dLaw_law_3166 (by decide) ?_
      refine va_dald hx hb X.2.2.1.2.2.2 J3.2.2.1.2 0 0 rfl rfl vp01 dLaw_law_3167 ?_
      refine lv_dload hx hb dLaw_law_3168 (lv_at hl 0 rfl) ?_
      refine lv_dcmp hx hb dLaw_law_3170 ?_
      refine lv_if_eq (tgt := 3196) hx hb dLaw_law_3171 (by decide) (fun _ => ?_) (fun q => absurd (show Op.cmpValue (FP.dcmp v v) _ = 0 by rw [mean_self hP]; rfl) q)
      refine lv_goto (tgt := 3212) hx hb dLaw_law_3196 (by decide) ?_
      exact fin
    · exact absurd q (nz_k k0 k1)
theorem mwl_clear : cCallV RV 202 RX12 yX12_clear cX12_clear 2 (some .int) 0 := ⟨⟨wl_in (i := 2021) (by decide +kernel), wl_in (i := 2022) (by decide +kernel), wl_in (i := 2023) (by decide +kernel), wl_in (i := 16) (by decide +kernel), wl_in (i := 2024) (by decide +kernel)⟩, rfl, by decide, by decide, by decide +kernel⟩
theorem cwv_clear : cCallV RV 199 (cRn 0) yX11_clear cX11_clear 2 (some FieldType.int) 0 := ⟨⟨wl_in (i := 340) (by decide +kernel), wl_in (i := 341) (by decide +kernel), wl_in (i := 342) (by decide +kernel), wl_in (i := 1) (by decide +kernel), wl_in (i := 343) (by decide +kernel)⟩, rfl, by decide, by decide, by decide +kernel⟩
set_option maxHeartbeats 4000000 in
set_option maxRecDepth 100000 in
theorem lc_clear {p : Program} {l : Launch} {e : Env} {s : State} {m : MethodId} {below : List Frame} {meth : Method} {c : Code} {H : Heap} {locs : List Loc} {cells slots : Nat} {Q : State → Prop} {b L : Nat} {xs : Nat → Int32} {ls : Array Slot} {D Dm : va_G} {ca cm : Nat → ClassId} {cO cOd : ClassId} {α0 α : cAl} {lo hm hi bo bd : Nat} {μ : Nat → Nat} {g : Gm} {σ : cS} {τ : mS} {f : Nat → Int64} {fd : Nat → UInt64} {i : Nat} (hst : l.stackTraces = false) (hL : L ≤ 2560) (X : lX p s m c b L xs D Dm ca cm cO cOd α0 lo hm hi bo bd) (J : lJ s D Dm ca cm cO cOd α0 lo hm hi bo bd μ σ τ α f fd H locs) (hR : Rel g σ τ) (h5 : i + 5 ≤ L) (hl : lv_has ls 9 [(0, .ref b), (1, .ref (α0 0 0)), (2, .ref (μ 0)), (3, .ref bo), (4, .ref bd), (5, .int (nI i))]) (hcl : cells + 12 ≤ room_1.cells) (hsl : slots + 700 ≤ room_1.slots)
    (kk : ∀ (g' : Gm) (σ' : cS) (τ' : mS) (α' : cAl) (f' : Nat → Int64) (fd' : Nat → UInt64) (H' : Heap) (locs' : List Loc) (ls' : Array Slot), Rel g' σ' τ' → lJ s D Dm ca cm cO cOd α0 lo hm hi bo bd μ σ' τ' α' f' fd' H' locs' → lv_has ls' 9 [(0, .ref b), (1, .ref (α0 0 0)), (2, .ref (μ 0)), (3, .ref bo), (4, .ref bd), (5, .int (nI i))] → W p l e room_1 s m #[Value.ref b] below meth c H' locs' (cells + 12) (slots + 700) Q (F0 m 3212 ls' [])) :
    W p l e room_1 s m #[Value.ref b] below meth c H locs cells slots Q (F0 m 334 ls []) := by
  obtain ⟨hx, hb, -, -, -⟩ := id X.1
  obtain ⟨g1, σ1, τ2, v, hfc, hfm, -, hR1⟩ := meth_clear hR
  refine lv_aload_n hx hb dLaw_law_334 rfl (lv_at hl 1 rfl) ?_
  refine l_cls (rest := []) X J (cc_X11_clear l D ca (lA s.heap.size lo hi) α σ (v, σ1) hfc) cwv_clear ⟨rfl, rfl⟩ ⟨Nat.le_of_ble_eq_true rfl, Nat.le_of_ble_eq_true rfl⟩ (cats_le _ (Nat.le_of_ble_eq_true rfl)) hl.1 dLaw_law_335 ⟨Nat.le_trans (Nat.add_le_add_left (Nat.le_of_ble_eq_true rfl) _) hcl, Nat.le_trans (Nat.add_le_add_left (Nat.le_of_ble_eq_true rfl) _) hsl⟩ (fun α1 H1 locs1 J1 => ?_)
  refine lv_aload_n hx hb dLaw_law_338 rfl (lv_at hl 2 rfl) ?_
  refine l_modI (As := []) (rest := [.int v]) X J1 (cm_clear l Dm cm μ (lB lo hm) τ (v, τ2) hfm) mwl_clear ⟨rfl, rfl⟩ ⟨Nat.le_of_ble_eq_true rfl, Nat.le_of_ble_eq_true rfl⟩ rfl rfl (cats_le _ (Nat.le_of_ble_eq_true rfl)) hl.1 dLaw_law_339 ⟨Nat.le_trans (Nat.add_le_add_left (Nat.le_of_ble_eq_true rfl) _) hcl, Nat.le_trans (Nat.add_le_add_left (Nat.le_of_ble_eq_true rfl) _) hsl⟩ (fun H2 locs2 J2 => ?_)
  refine W.widen (k := cells + 12) (n := slots + 700) (Nat.add_le_add_left (Nat.le_of_ble_eq_true rfl) _) (Nat.add_le_add_left (Nat.le_of_ble_eq_true rfl) _) ?_
  exact lv_icmp_eq (tgt := 3212) hx hb dLaw_law_342 (by decide) (fun _ => kk g1 σ1 τ2 α1 f fd H2 locs2 ls hR1 J2 hl) (fun q => absurd rfl q)
theorem mwl_coins : cCallV RV 329 RX12 yX12_coins cX12_coins 1 (some .int) 0 := ⟨⟨wl_in (i := 2353) (by decide +kernel), wl_in (i := 2354) (by decide +kernel), wl_in (i := 2355) (by decide +kernel), wl_in (i := 16) (by decide +kernel), wl_in (i := 2356) (by decide +kernel)⟩, rfl, by decide, by decide, by decide +kernel⟩
theorem cwv_coins : cCallV RV 326 (cRn 0) yX11_coins cX11_coins 1 (some FieldType.int) 0 := ⟨⟨wl_in (i := 344) (by decide +kernel), wl_in (i := 345) (by decide +kernel), wl_in (i := 346) (by decide +kernel), wl_in (i := 1) (by decide +kernel), wl_in (i := 347) (by decide +kernel)⟩, rfl, by decide, by decide, by decide +kernel⟩
set_option maxHeartbeats 4000000 in
set_option maxRecDepth 100000 in
theorem lc_coins {p : Program} {l : Launch} {e : Env} {s : State} {m : MethodId} {below : List Frame} {meth : Method} {c : Code} {H : Heap} {locs : List Loc} {cells slots : Nat} {Q : State → Prop} {b L : Nat} {xs : Nat → Int32} {ls : Array Slot} {D Dm : va_G} {ca cm : Nat → ClassId} {cO cOd : ClassId} {α0 α : cAl} {lo hm hi bo bd : Nat} {μ : Nat → Nat} {g : Gm} {σ : cS} {τ : mS} {f : Nat → Int64} {fd : Nat → UInt64} {i : Nat} (hst : l.stackTraces = false) (hL : L ≤ 2560) (X : lX p s m c b L xs D Dm ca cm cO cOd α0 lo hm hi bo bd) (J : lJ s D Dm ca cm cO cOd α0 lo hm hi bo bd μ σ τ α f fd H locs) (hR : Rel g σ τ) (h5 : i + 5 ≤ L) (hl : lv_has ls 9 [(0, .ref b), (1, .ref (α0 0 0)), (2, .ref (μ 0)), (3, .ref bo), (4, .ref bd), (5, .int (nI i))]) (hcl : cells + 12 ≤ room_1.cells) (hsl : slots + 700 ≤ room_1.slots)
    (kk : ∀ (g' : Gm) (σ' : cS) (τ' : mS) (α' : cAl) (f' : Nat → Int64) (fd' : Nat → UInt64) (H' : Heap) (locs' : List Loc) (ls' : Array Slot), Rel g' σ' τ' → lJ s D Dm ca cm cO cOd α0 lo hm hi bo bd μ σ' τ' α' f' fd' H' locs' → lv_has ls' 9 [(0, .ref b), (1, .ref (α0 0 0)), (2, .ref (μ 0)), (3, .ref bo), (4, .ref bd), (5, .int (nI i))] → W p l e room_1 s m #[Value.ref b] below meth c H' locs' (cells + 12) (slots + 700) Q (F0 m 3212 ls' [])) :
    W p l e room_1 s m #[Value.ref b] below meth c H locs cells slots Q (F0 m 2617 ls []) := by
  obtain ⟨hx, hb, -, -, -⟩ := id X.1
  obtain ⟨v, τ2, hfc, hfm, hR1⟩ := meth_coins hR
  refine lv_aload_n hx hb dLaw_law_2617 rfl (lv_at hl 1 rfl) ?_
  refine l_cls (rest := []) X J (cc_X11_coins l D ca (lA s.heap.size lo hi) α σ (v, σ) hfc) cwv_coins ⟨rfl, rfl⟩ ⟨Nat.le_of_ble_eq_true rfl, Nat.le_of_ble_eq_true rfl⟩ (cats_le _ (Nat.le_of_ble_eq_true rfl)) hl.1 dLaw_law_2618 ⟨Nat.le_trans (Nat.add_le_add_left (Nat.le_of_ble_eq_true rfl) _) hcl, Nat.le_trans (Nat.add_le_add_left (Nat.le_of_ble_eq_true rfl) _) hsl⟩ (fun α1 H1 locs1 J1 => ?_)
  refine lv_aload_n hx hb dLaw_law_2621 rfl (lv_at hl 2 rfl) ?_
  refine l_modI (As := []) (rest := [.int v]) X J1 (cm_coins l Dm cm μ (lB lo hm) τ (v, τ2) hfm) mwl_coins ⟨rfl, rfl⟩ ⟨Nat.le_of_ble_eq_true rfl, Nat.le_of_ble_eq_true rfl⟩ rfl rfl (cats_le _ (Nat.le_of_ble_eq_true rfl)) hl.1 dLaw_law_2622 ⟨Nat.le_trans (Nat.add_le_add_left (Nat.le_of_ble_eq_true rfl) _) hcl, Nat.le_trans (Nat.add_le_add_left (Nat.le_of_ble_eq_true rfl) _) hsl⟩ (fun H2 locs2 J2 => ?_)
  refine W.widen (k := cells + 12) (n := slots + 700) (Nat.add_le_add_left (Nat.le_of_ble_eq_true rfl) _) (Nat.add_le_add_left (Nat.le_of_ble_eq_true rfl) _) ?_
  exact lv_icmp_eq (tgt := 3212) hx hb dLaw_law_2625 (by decide) (fun _ => kk g σ τ2 α1 f fd H2 locs2 ls hR1 J2 hl) (fun q => absurd rfl q)
theorem mwl_sales : cCallV RV 336 RX12 yX12_sales cX12_sales 1 (some .int) 0 := ⟨⟨wl_in (i := 2361) (by decide +kernel), wl_in (i := 2362) (by decide +kernel), wl_in (i := 2363) (by decide +kernel), wl_in (i := 16) (by decide +kernel), wl_in (i := 2364) (by decide +kernel)⟩, rfl, by decide, by decide, by decide +kernel⟩
theorem cwv_sales : cCallV RV 333 (cRn 0) yX11_sales cX11_sales 1 (some FieldType.int) 0 := ⟨⟨wl_in (i := 348) (by decide +kernel), wl_in (i := 349) (by decide +kernel), wl_in (i := 350) (by decide +kernel), wl_in (i := 1) (by decide +kernel), wl_in (i := 351) (by decide +kernel)⟩, rfl, by decide, by decide, by decide +kernel⟩
set_option maxHeartbeats 4000000 in
set_option maxRecDepth 100000 in
theorem lc_sales {p : Program} {l : Launch} {e : Env} {s : State} {m : MethodId} {below : List Frame} {meth : Method} {c : Code} {H : Heap} {locs : List Loc} {cells slots : Nat} {Q : State → Prop} {b L : Nat} {xs : Nat → Int32} {ls : Array Slot} {D Dm : va_G} {ca cm : Nat → ClassId} {cO cOd : ClassId} {α0 α : cAl} {lo hm hi bo bd : Nat} {μ : Nat → Nat} {g : Gm} {σ : cS} {τ : mS} {f : Nat → Int64} {fd : Nat → UInt64} {i : Nat} (hst : l.stackTraces = false) (hL : L ≤ 2560) (X : lX p s m c b L xs D Dm ca cm cO cOd α0 lo hm hi bo bd) (J : lJ s D Dm ca cm cO cOd α0 lo hm hi bo bd μ σ τ α f fd H locs) (hR : Rel g σ τ) (h5 : i + 5 ≤ L) (hl : lv_has ls 9 [(0, .ref b), (1, .ref (α0 0 0)), (2, .ref (μ 0)), (3, .ref bo), (4, .ref bd), (5, .int (nI i))]) (hcl : cells + 12 ≤ room_1.cells) (hsl : slots + 700 ≤ room_1.slots)
    (kk : ∀ (g' : Gm) (σ' : cS) (τ' : mS) (α' : cAl) (f' : Nat → Int64) (fd' : Nat → UInt64) (H' : Heap) (locs' : List Loc) (ls' : Array Slot), Rel g' σ' τ' → lJ s D Dm ca cm cO cOd α0 lo hm hi bo bd μ σ' τ' α' f' fd' H' locs' → lv_has ls' 9 [(0, .ref b), (1, .ref (α0 0 0)), (2, .ref (μ 0)), (3, .ref bo), (4, .ref bd), (5, .int (nI i))] → W p l e room_1 s m #[Value.ref b] below meth c H' locs' (cells + 12) (slots + 700) Q (F0 m 3212 ls' [])) :
    W p l e room_1 s m #[Value.ref b] below meth c H locs cells slots Q (F0 m 2686 ls []) := by
  obtain ⟨hx, hb, -, -, -⟩ := id X.1
  obtain ⟨v, τ2, hfc, hfm, hR1⟩ := meth_sales hR
  refine lv_aload_n hx hb dLaw_law_2686 rfl (lv_at hl 1 rfl) ?_
  refine l_cls (rest := []) X J (cc_X11_sales l D ca (lA s.heap.size lo hi) α σ (v, σ) hfc) cwv_sales ⟨rfl, rfl⟩ ⟨Nat.le_of_ble_eq_true rfl, Nat.le_of_ble_eq_true rfl⟩ (cats_le _ (Nat.le_of_ble_eq_true rfl)) hl.1 dLaw_law_2687 ⟨Nat.le_trans (Nat.add_le_add_left (Nat.le_of_ble_eq_true rfl) _) hcl, Nat.le_trans (Nat.add_le_add_left (Nat.le_of_ble_eq_true rfl) _) hsl⟩ (fun α1 H1 locs1 J1 => ?_)
  refine lv_aload_n hx hb dLaw_law_2690 rfl (lv_at hl 2 rfl) ?_
  refine l_modI (As := []) (rest := [.int v]) X J1 (cm_sales l Dm cm μ (lB lo hm) τ (v, τ2) hfm) mwl_sales ⟨rfl, rfl⟩ ⟨Nat.le_of_ble_eq_true rfl, Nat.le_of_ble_eq_true rfl⟩ rfl rfl (cats_le _ (Nat.le_of_ble_eq_true rfl)) hl.1 dLaw_law_2691 ⟨Nat.le_trans (Nat.add_le_add_left (Nat.le_of_ble_eq_true rfl) _) hcl, Nat.le_trans (Nat.add_le_add_left (Nat.le_of_ble_eq_true rfl) _) hsl⟩ (fun H2 locs2 J2 => ?_)
  refine W.widen (k := cells + 12) (n := slots + 700) (Nat.add_le_add_left (Nat.le_of_ble_eq_true rfl) _) (Nat.add_le_add_left (Nat.le_of_ble_eq_true rfl) _) ?_
  exact lv_icmp_eq (tgt := 3212) hx hb dLaw_law_2694 (by decide) (fun _ => kk g σ τ2 α1 f fd H2 locs2 ls hR1 J2 hl) (fun q => absurd rfl q)
theorem mwl_isSound : cCallV RV 369 RX12 yX12_isSound cX12_isSound 1 (some .boolean) 0 := ⟨⟨wl_in (i := 2420) (by decide +kernel), wl_in (i := 2421) (by decide +kernel), wl_in (i := 2422) (by decide +kernel), wl_in (i := 16) (by decide +kernel), wl_in (i := 2423) (by decide +kernel)⟩, rfl, by decide, by decide, by decide +kernel⟩
theorem cwv_isSound : cCallV RV 366 (cRn 0) yX11_isSound cX11_isSound 2 (some FieldType.boolean) 0 := ⟨⟨wl_in (i := 356) (by decide +kernel), wl_in (i := 357) (by decide +kernel), wl_in (i := 358) (by decide +kernel), wl_in (i := 1) (by decide +kernel), wl_in (i := 359) (by decide +kernel)⟩, rfl, by decide, by decide, by decide +kernel⟩
set_option maxHeartbeats 4000000 in
set_option maxRecDepth 100000 in
theorem lc_isSound {p : Program} {l : Launch} {e : Env} {s : State} {m : MethodId} {below : List Frame} {meth : Method} {c : Code} {H : Heap} {locs : List Loc} {cells slots : Nat} {Q : State → Prop} {b L : Nat} {xs : Nat → Int32} {ls : Array Slot} {D Dm : va_G} {ca cm : Nat → ClassId} {cO cOd : ClassId} {α0 α : cAl} {lo hm hi bo bd : Nat} {μ : Nat → Nat} {g : Gm} {σ : cS} {τ : mS} {f : Nat → Int64} {fd : Nat → UInt64} {i : Nat} (hst : l.stackTraces = false) (hL : L ≤ 2560) (X : lX p s m c b L xs D Dm ca cm cO cOd α0 lo hm hi bo bd) (J : lJ s D Dm ca cm cO cOd α0 lo hm hi bo bd μ σ τ α f fd H locs) (hR : Rel g σ τ) (h5 : i + 5 ≤ L) (hl : lv_has ls 9 [(0, .ref b), (1, .ref (α0 0 0)), (2, .ref (μ 0)), (3, .ref bo), (4, .ref bd), (5, .int (nI i))]) (hcl : cells + 12 ≤ room_1.cells) (hsl : slots + 700 ≤ room_1.slots)
    (kk : ∀ (g' : Gm) (σ' : cS) (τ' : mS) (α' : cAl) (f' : Nat → Int64) (fd' : Nat → UInt64) (H' : Heap) (locs' : List Loc) (ls' : Array Slot), Rel g' σ' τ' → lJ s D Dm ca cm cO cOd α0 lo hm hi bo bd μ σ' τ' α' f' fd' H' locs' → lv_has ls' 9 [(0, .ref b), (1, .ref (α0 0 0)), (2, .ref (μ 0)), (3, .ref bo), (4, .ref bd), (5, .int (nI i))] → W p l e room_1 s m #[Value.ref b] below meth c H' locs' (cells + 12) (slots + 700) Q (F0 m 3212 ls' [])) :
    W p l e room_1 s m #[Value.ref b] below meth c H locs cells slots Q (F0 m 3199 ls []) := by
  obtain ⟨hx, hb, -, -, -⟩ := id X.1
  obtain ⟨σ1, τ2, hfc, hfm, hR1⟩ := meth_isSound hR
  refine lv_aload_n hx hb dLaw_law_3199 rfl (lv_at hl 1 rfl) ?_
  refine l_cls (rest := []) X J (cc_X11_isSound l D ca (lA s.heap.size lo hi) α σ ((1 : Int32), σ1) hfc) cwv_isSound ⟨rfl, rfl⟩ ⟨Nat.le_of_ble_eq_true rfl, Nat.le_of_ble_eq_true rfl⟩ (cats_le _ (Nat.le_of_ble_eq_true rfl)) hl.1 dLaw_law_3200 ⟨Nat.le_trans (Nat.add_le_add_left (Nat.le_of_ble_eq_true rfl) _) hcl, Nat.le_trans (Nat.add_le_add_left (Nat.le_of_ble_eq_true rfl) _) hsl⟩ (fun α1 H1 locs1 J1 => ?_)
  refine lv_aload_n hx hb dLaw_law_3203 rfl (lv_at hl 2 rfl) ?_
  refine l_modI (As := []) (rest := [.int (1 : Int32)]) X J1 (cm_isSound l Dm cm μ (lB lo hm) τ ((1 : Int32), τ2) hfm) mwl_isSound ⟨rfl, rfl⟩ ⟨Nat.le_of_ble_eq_true rfl, Nat.le_of_ble_eq_true rfl⟩ rfl rfl (cats_le _ (Nat.le_of_ble_eq_true rfl)) hl.1 dLaw_law_3204 ⟨Nat.le_trans (Nat.add_le_add_left (Nat.le_of_ble_eq_true rfl) _) hcl, Nat.le_trans (Nat.add_le_add_left (Nat.le_of_ble_eq_true rfl) _) hsl⟩ (fun H2 locs2 J2 => ?_)
  refine W.widen (k := cells + 12) (n := slots + 700) (Nat.add_le_add_left (Nat.le_of_ble_eq_true rfl) _) (Nat.add_le_add_left (Nat.le_of_ble_eq_true rfl) _) ?_
  exact lv_icmp_eq (tgt := 3212) hx hb dLaw_law_3207 (by decide) (fun _ => kk g σ1 τ2 α1 f fd H2 locs2 ls hR1 J2 hl) (fun q => absurd rfl q)
