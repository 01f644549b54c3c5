/-! The law's loop. -/
theorem loop_go : ∀ L, L < 5 → ∀ i, i < 5 → i ≤ L → nI L - (5 : Int32) < nI i := by decide
theorem loop_in {i L : Nat} (hi : i ≤ L) (hL : L ≤ 2560) (h : ¬ nI L - (5 : Int32) < nI i) : i + 5 ≤ L := by
  by_cases q : 5 ≤ L
  · rw [show (5 : Int32) = nI 5 from rfl, jSub q, jLt (by omega) (by omega)] at h
    omega
  · exact absurd (loop_go L (by omega) i (by omega) hi) h
theorem and63 (x : Int32) : ∃ k, k < 64 ∧ x &&& (63 : Int32) = nI k := by
  refine ⟨x.toBitVec.toNat % 64, Nat.mod_lt _ (by decide), Int32.toBitVec_inj.mp (BitVec.eq_of_toNat_eq ?_)⟩
  rw [Int32.toBitVec_and, BitVec.toNat_and, show ((63 : Int32).toBitVec.toNat) = 2 ^ 6 - 1 from rfl, Nat.and_two_pow_sub_one_eq_mod]
  show _ = (BitVec.ofInt 32 ((x.toBitVec.toNat % 64 : Nat) : Int)).toNat
  rw [BitVec.toNat_ofInt]
  have := x.toBitVec.isLt
  omega
set_option maxHeartbeats 8000000 in
set_option maxRecDepth 100000 in
theorem law_loop {p : Program} {l : Launch} {e : Env} {s : State} {m : MethodId} {below : List Frame} {meth : Method} {c : Code} {b L : Nat} {xs : Nat → Int32} {D Dm : va_G} {ca cm : Nat → ClassId} {cO cOd : ClassId} {α0 : cAl} {lo hm hi bo bd : Nat} {μ : Nat → Nat} (hst : l.stackTraces = false) (hL : L ≤ 2560) (X : lX p s m c b L xs D Dm ca cm cO cOd α0 lo hm hi bo bd) (hr : meth.sig.returnType = ret) (hlocks : meth.locks = false) :
    ∀ (n i cells slots : Nat) (g : Gm) (σ : cS) (τ : mS) (α : cAl) (f : Nat → Int64) (fd : Nat → UInt64) (H : Heap) (locs : List Loc) (ls : Array Slot), i ≤ L → L < i + 5 * n → cells + 12 * n ≤ 603072 → slots + 700 * n ≤ 7223402 → Rel g σ τ → lJ s D Dm ca cm cO cOd α0 lo hm hi bo bd μ σ τ α f fd H locs → lv_has ls 9 [(0, .ref b), (1, .ref (α0 0 0)), (2, .ref (μ 0)), (3, .ref bo), (4, .ref bd), (5, .int (nI i))] →
      W p l e room_1 s m #[Value.ref b] below meth c H locs cells slots (lw_Z below #[Value.ref b] s) (F0 m 28 ls []) := by
  obtain ⟨hx, hb, -, -, -⟩ := id X.1
  obtain ⟨hX, hbl⟩ := X.2.1
  intro n
  induction n with
  | zero =>
    intro i cells slots g σ τ α f fd H locs ls h1 h2
    exact absurd h2 (by omega)
  | succ n ih =>
    intro i cells slots g σ τ α f fd H locs ls h1 h2 hc1 hs1 hR J hl
    refine lv_iload hx hb dLaw_law_28 (lv_at hl 5 rfl) ?_
    refine lv_aload_n hx hb dLaw_law_30 rfl (lv_at hl 0 rfl) ?_
    refine va_slen hx hb hX hbl (Nat.not_le.mpr hbl) J.2.2.2.1 dLaw_law_31 ?_
    refine lv_iconst (v := 5) hx hb dLaw_law_32 (by decide) ?_
    refine lv_isub hx hb dLaw_law_33 ?_
    refine lv_icmp_gt (tgt := 3218) hx hb dLaw_law_34 (by decide) (fun c_1 => ?_) (fun c_1 => ?_)
    · refine lv_iconst (v := 1) hx hb dLaw_law_3218 (by decide) ?_
      refine va_forget (fun q hq => J.2.2.2.1.2.2 q hq) ?_
      refine W.widen (k := 603072) (n := 7223402) (by omega) (by omega) ?_
      exact lw_ret (d0 := s.drawn) (Drawn.sameBut.refl s.drawn lw_cs) hx hb hr hlocks dLaw_law_3219
    · have h5 : i + 5 ≤ L := loop_in h1 hL c_1
      have hcl : cells + 12 ≤ room_1.cells := by show cells + 12 ≤ 603072; omega
      have hsl : slots + 700 ≤ room_1.slots := by show slots + 700 ≤ 7223402; omega
      have kk : ∀ (g' : Gm) (σ' : cS) (τ' : mS) (α' : cAl) (f' : Nat → Int64) (fd' : Nat → UInt64) (H' : Heap) (locs' : List Loc) (ls' : Array Slot), Rel g' σ' τ' → lJ s D Dm ca cm cO cOd α0 lo hm hi bo bd μ σ' τ' α' f' fd' H' locs' → lv_has ls' 9 [(0, .ref b), (1, .ref (α0 0 0)), (2, .ref (μ 0)), (3, .ref bo), (4, .ref bd), (5, .int (nI i))] → W p l e room_1 s m #[Value.ref b] below meth c H' locs' (cells + 12) (slots + 700) (lw_Z below #[Value.ref b] s) (F0 m 3212 ls' []) := by
        intro g' σ' τ' α' f' fd' H' locs' ls' hR' J' hl'
        refine lv_iinc (v := nI (i + 5)) (lv' := [(5, .int (nI (i + 5))), (0, .ref b), (1, .ref (α0 0 0)), (2, .ref (μ 0)), (3, .ref bo), (4, .ref bd)]) hx hb dLaw_law_3212 hl' (k := 5) rfl (by show nI i + nI 5 = _; rw [jAdd]) (by decide) rfl (fun ls hl => ?_)
        refine lv_goto (tgt := 28) hx hb dLaw_law_3215 (by decide) ?_
        exact ih (i + 5) (cells + 12) (slots + 700) g' σ' τ' α' f' fd' H' locs' ls h5 (by omega) (by omega) (by omega) hR' J' (lv_sub hl [1, 2, 3, 4, 5, 0] rfl)
      refine l_arg0 (i := i) X J.2.2.2.1 hL (by omega) (lv_at hl 0 rfl) (lv_at hl 5 rfl) dLaw_law_37 dLaw_law_38 dLaw_law_40 ?_
      refine lv_bipush (v := (63 : Int32)) hx hb dLaw_law_41 (by decide) ?_
      refine lv_iand hx hb dLaw_law_43 ?_
      obtain ⟨k, hk, ek⟩ := and63 (xs i)
      refine W_st (st' := [.int (nI k)]) (by rw [ek]) ?_
      by_cases q : k < 54
      · match k, q with
        | 0, _ => exact lv_tableIn (tgt := 276) (off := 232) hx hb dLaw_law_44 (by decide) (by decide) (by decide +kernel) (by decide) (lc_type hst hL X J hR h5 hl hcl hsl kk)
        | 1, _ => exact lv_tableIn (tgt := 334) (off := 290) hx hb dLaw_law_44 (by decide) (by decide) (by decide +kernel) (by decide) (lc_clear hst hL X J hR h5 hl hcl hsl kk)
        | 2, _ => exact lv_tableIn (tgt := 347) (off := 303) hx hb dLaw_law_44 (by decide) (by decide) (by decide +kernel) (by decide) (lc_word hst hL X J hR h5 hl hcl hsl kk)
        | 3, _ => exact lv_tableIn (tgt := 391) (off := 347) hx hb dLaw_law_44 (by decide) (by decide) (by decide +kernel) (by decide) (lc_room hst hL X J hR h5 hl hcl hsl kk)
        | 4, _ => exact lv_tableIn (tgt := 463) (off := 419) hx hb dLaw_law_44 (by decide) (by decide) (by decide +kernel) (by decide) (lc_show hst hL X J hR h5 hl hcl hsl kk)
        | 5, _ => exact lv_tableIn (tgt := 531) (off := 487) hx hb dLaw_law_44 (by decide) (by decide) (by decide +kernel) (by decide) (lc_exit hst hL X J hR h5 hl hcl hsl kk)
        | 6, _ => exact lv_tableIn (tgt := 613) (off := 569) hx hb dLaw_law_44 (by decide) (by decide) (by decide +kernel) (by decide) (lc_lock hst hL X J hR h5 hl hcl hsl kk)
        | 7, _ => exact lv_tableIn (tgt := 695) (off := 651) hx hb dLaw_law_44 (by decide) (by decide) (by decide +kernel) (by decide) (lc_thing hst hL X J hR h5 hl hcl hsl kk)
        | 8, _ => exact lv_tableIn (tgt := 789) (off := 745) hx hb dLaw_law_44 (by decide) (by decide) (by decide +kernel) (by decide) (lc_fuel hst hL X J hR h5 hl hcl hsl kk)
        | 9, _ => exact lv_tableIn (tgt := 857) (off := 813) hx hb dLaw_law_44 (by decide) (by decide) (by decide +kernel) (by decide) (lc_tell hst hL X J hR h5 hl hcl hsl kk)
        | 10, _ => exact lv_tableIn (tgt := 925) (off := 881) hx hb dLaw_law_44 (by decide) (by decide) (by decide +kernel) (by decide) (lc_goal hst hL X J hR h5 hl hcl hsl kk)
        | 11, _ => exact lv_tableIn (tgt := 993) (off := 949) hx hb dLaw_law_44 (by decide) (by decide) (by decide +kernel) (by decide) (lc_hint hst hL X J hR h5 hl hcl hsl kk)
        | 12, _ => exact lv_tableIn (tgt := 1049) (off := 1005) hx hb dLaw_law_44 (by decide) (by decide) (by decide +kernel) (by decide) (lc_teach hst hL X J hR h5 hl hcl hsl kk)
        | 13, _ => exact lv_tableIn (tgt := 1117) (off := 1073) hx hb dLaw_law_44 (by decide) (by decide) (by decide +kernel) (by decide) (lc_begin hst hL X J hR h5 hl hcl hsl kk)
        | 14, _ => exact lv_tableIn (tgt := 1173) (off := 1129) hx hb dLaw_law_44 (by decide) (by decide) (by decide +kernel) (by decide) (lc_say hst hL X J hR h5 hl hcl hsl kk)
        | 15, _ => exact lv_tableIn (tgt := 1217) (off := 1173) hx hb dLaw_law_44 (by decide) (by decide) (by decide +kernel) (by decide) (lc_at hst hL X J hR h5 hl hcl hsl kk)
        | 16, _ => exact lv_tableIn (tgt := 1261) (off := 1217) hx hb dLaw_law_44 (by decide) (by decide) (by decide +kernel) (by decide) (lc_place hst hL X J hR h5 hl hcl hsl kk)
        | 17, _ => exact lv_tableIn (tgt := 1317) (off := 1273) hx hb dLaw_law_44 (by decide) (by decide) (by decide +kernel) (by decide) (lc_isOpen hst hL X J hR h5 hl hcl hsl kk)
        | 18, _ => exact lv_tableIn (tgt := 1380) (off := 1336) hx hb dLaw_law_44 (by decide) (by decide) (by decide +kernel) (by decide) (lc_lit hst hL X J hR h5 hl hcl hsl kk)
        | 19, _ => exact lv_tableIn (tgt := 1436) (off := 1392) hx hb dLaw_law_44 (by decide) (by decide) (by decide +kernel) (by decide) (lc_isBright hst hL X J hR h5 hl hcl hsl kk)
        | 20, _ => exact lv_tableIn (tgt := 1487) (off := 1443) hx hb dLaw_law_44 (by decide) (by decide) (by decide +kernel) (by decide) (lc_weight hst hL X J hR h5 hl hcl hsl kk)
        | 21, _ => exact lv_tableIn (tgt := 1531) (off := 1487) hx hb dLaw_law_44 (by decide) (by decide) (by decide +kernel) (by decide) (lc_node hst hL X J hR h5 hl hcl hsl kk)
        | 22, _ => exact lv_tableIn (tgt := 1575) (off := 1531) hx hb dLaw_law_44 (by decide) (by decide) (by decide +kernel) (by decide) (lc_nodes hst hL X J hR h5 hl hcl hsl kk)
        | 23, _ => exact lv_tableIn (tgt := 1619) (off := 1575) hx hb dLaw_law_44 (by decide) (by decide) (by decide +kernel) (by decide) (lc_parent hst hL X J hR h5 hl hcl hsl kk)
        | 24, _ => exact lv_tableIn (tgt := 1675) (off := 1631) hx hb dLaw_law_44 (by decide) (by decide) (by decide +kernel) (by decide) (lc_depth hst hL X J hR h5 hl hcl hsl kk)
        | 25, _ => exact lv_tableIn (tgt := 1731) (off := 1687) hx hb dLaw_law_44 (by decide) (by decide) (by decide +kernel) (by decide) (lc_children hst hL X J hR h5 hl hcl hsl kk)
        | 26, _ => exact lv_tableIn (tgt := 1787) (off := 1743) hx hb dLaw_law_44 (by decide) (by decide) (by decide +kernel) (by decide) (lc_common hst hL X J hR h5 hl hcl hsl kk)
        | 27, _ => exact lv_tableIn (tgt := 1855) (off := 1811) hx hb dLaw_law_44 (by decide) (by decide) (by decide +kernel) (by decide) (lc_undo hst hL X J hR h5 hl hcl hsl kk)
        | 28, _ => exact lv_tableIn (tgt := 1899) (off := 1855) hx hb dLaw_law_44 (by decide) (by decide) (by decide +kernel) (by decide) (lc_redo hst hL X J hR h5 hl hcl hsl kk)
        | 29, _ => exact lv_tableIn (tgt := 1955) (off := 1911) hx hb dLaw_law_44 (by decide) (by decide) (by decide +kernel) (by decide) (lc_name hst hL X J hR h5 hl hcl hsl kk)
        | 30, _ => exact lv_tableIn (tgt := 1999) (off := 1955) hx hb dLaw_law_44 (by decide) (by decide) (by decide +kernel) (by decide) (lc_jump hst hL X J hR h5 hl hcl hsl kk)
        | 31, _ => exact lv_tableIn (tgt := 2043) (off := 1999) hx hb dLaw_law_44 (by decide) (by decide) (by decide +kernel) (by decide) (lc_isKnown hst hL X J hR h5 hl hcl hsl kk)
        | 32, _ => exact lv_tableIn (tgt := 2106) (off := 2062) hx hb dLaw_law_44 (by decide) (by decide) (by decide +kernel) (by decide) (lc_known hst hL X J hR h5 hl hcl hsl kk)
        | 33, _ => exact lv_tableIn (tgt := 2150) (off := 2106) hx hb dLaw_law_44 (by decide) (by decide) (by decide +kernel) (by decide) (lc_learnt hst hL X J hR h5 hl hcl hsl kk)
        | 34, _ => exact lv_tableIn (tgt := 2206) (off := 2162) hx hb dLaw_law_44 (by decide) (by decide) (by decide +kernel) (by decide) (lc_postings hst hL X J hR h5 hl hcl hsl kk)
        | 35, _ => exact lv_tableIn (tgt := 2262) (off := 2218) hx hb dLaw_law_44 (by decide) (by decide) (by decide +kernel) (by decide) (lc_posting hst hL X J hR h5 hl hcl hsl kk)
        | 36, _ => exact lv_tableIn (tgt := 2330) (off := 2286) hx hb dLaw_law_44 (by decide) (by decide) (by decide +kernel) (by decide) (lc_rare hst hL X J hR h5 hl hcl hsl kk)
        | 37, _ => exact lv_tableIn (tgt := 2386) (off := 2342) hx hb dLaw_law_44 (by decide) (by decide) (by decide +kernel) (by decide) (lc_price hst hL X J hR h5 hl hcl hsl kk)
        | 38, _ => exact lv_tableIn (tgt := 2442) (off := 2398) hx hb dLaw_law_44 (by decide) (by decide) (by decide +kernel) (by decide) (lc_buy hst hL X J hR h5 hl hcl hsl kk)
        | 39, _ => exact lv_tableIn (tgt := 2498) (off := 2454) hx hb dLaw_law_44 (by decide) (by decide) (by decide +kernel) (by decide) (lc_isOwned hst hL X J hR h5 hl hcl hsl kk)
        | 40, _ => exact lv_tableIn (tgt := 2561) (off := 2517) hx hb dLaw_law_44 (by decide) (by decide) (by decide +kernel) (by decide) (lc_read hst hL X J hR h5 hl hcl hsl kk)
        | 41, _ => exact lv_tableIn (tgt := 2617) (off := 2573) hx hb dLaw_law_44 (by decide) (by decide) (by decide +kernel) (by decide) (lc_coins hst hL X J hR h5 hl hcl hsl kk)
        | 42, _ => exact lv_tableIn (tgt := 2630) (off := 2586) hx hb dLaw_law_44 (by decide) (by decide) (by decide +kernel) (by decide) (lc_earn hst hL X J hR h5 hl hcl hsl kk)
        | 43, _ => exact lv_tableIn (tgt := 2686) (off := 2642) hx hb dLaw_law_44 (by decide) (by decide) (by decide +kernel) (by decide) (lc_sales hst hL X J hR h5 hl hcl hsl kk)
        | 44, _ => exact lv_tableIn (tgt := 2699) (off := 2655) hx hb dLaw_law_44 (by decide) (by decide) (by decide +kernel) (by decide) (lc_sale hst hL X J hR h5 hl hcl hsl kk)
        | 45, _ => exact lv_tableIn (tgt := 2769) (off := 2725) hx hb dLaw_law_44 (by decide) (by decide) (by decide +kernel) (by decide) (lc_merge hst hL X J hR h5 hl hcl hsl kk)
        | 46, _ => exact lv_tableIn (tgt := 2825) (off := 2781) hx hb dLaw_law_44 (by decide) (by decide) (by decide +kernel) (by decide) (lc_score hst hL X J hR h5 hl hcl hsl kk)
        | 47, _ => exact lv_tableIn (tgt := 2869) (off := 2825) hx hb dLaw_law_44 (by decide) (by decide) (by decide +kernel) (by decide) (lc_steps hst hL X J hR h5 hl hcl hsl kk)
        | 48, _ => exact lv_tableIn (tgt := 2925) (off := 2881) hx hb dLaw_law_44 (by decide) (by decide) (by decide +kernel) (by decide) (lc_line hst hL X J hR h5 hl hcl hsl kk)
        | 49, _ => exact lv_tableIn (tgt := 2969) (off := 2925) hx hb dLaw_law_44 (by decide) (by decide) (by decide +kernel) (by decide) (lc_signOf hst hL X J hR h5 hl hcl hsl kk)
        | 50, _ => exact lv_tableIn (tgt := 3025) (off := 2981) hx hb dLaw_law_44 (by decide) (by decide) (by decide +kernel) (by decide) (lc_checksum hst hL X J hR h5 hl hcl hsl kk)
        | 51, _ => exact lv_tableIn (tgt := 3068) (off := 3024) hx hb dLaw_law_44 (by decide) (by decide) (by decide +kernel) (by decide) (lc_knownShare hst hL X J hR h5 hl hcl hsl kk)
        | 52, _ => exact lv_tableIn (tgt := 3134) (off := 3090) hx hb dLaw_law_44 (by decide) (by decide) (by decide +kernel) (by decide) (lc_meanPrice hst hL X J hR h5 hl hcl hsl kk)
        | 53, _ => exact lv_tableIn (tgt := 3199) (off := 3155) hx hb dLaw_law_44 (by decide) (by decide) (by decide +kernel) (by decide) (lc_isSound hst hL X J hR h5 hl hcl hsl kk)
        | n + 54, h => exact absurd h (by omega)
      · refine lv_tableOut (tgt := 3212) hx hb dLaw_law_44 (Or.inr ?_) (by decide) ?_
        · rw [nI_toInt (show k < 2 ^ 31 by omega)]
          omega
        · refine W.widen (k := cells + 12) (n := slots + 700) (by omega) (by omega) ?_
          exact kk g σ τ α f fd H locs ls hR J hl
