/-! The index's further calls, and what is had of the state made: postings, posting, rare, isBright, weight. -/
section F19
variable {g : Gm} {σ : cS} {τ : mS}
theorem mI_twice (τ : mS) (k : Nat) (a b : Int32) : mI (mI τ k a) k b = mI τ k b := by
  show (upd (upd τ.1 k a) k b, τ.2) = (upd τ.1 k b, τ.2)
  congr 1
  funext j
  unfold upd
  split <;> rfl
/-- a call that wants a word alone -/
theorem Alk.word1 {ex : List Nat} {f : Option ((Nat ⊕ Int32) × cS)} {m : Option (Int32 × mS)} {F : Unit → cS → Option ((Nat ⊕ Int32) × cS)} {A : mS → Int32 → Option (Int32 × mS)} {x v : Int32} (hR : Rel g σ τ) (h1 : ex[0]? = some 4) (hf : f = xb (fc_X11_needWord σ x) F) (hm : m = (fm_isWord τ x).bind fun r => if r.1 = 0 then A r.2 1 else A r.2 0) (hz : A τ 1 = some (v, mI τ 0 (nI 1))) (h : vIn x g.w.W = true → Alk ex g (F () σ) (A τ 0)) : Alk ex g f m := by
  rw [hf, hm, fc_needWord_s hR.1.1 hR.2.1.1, fm_isWord_s hR.1.1 hR.2.2.1, Option.bind_some, bI_if]
  by_cases q : vIn x g.w.W = true
  · rw [if_pos q, if_pos q]
    exact h q
  · rw [if_neg q, if_neg q]
    exact Alk.x (j := 0) hR rfl hz h1
theorem meth_postings (hR : Rel g σ τ) (v : Int32) : Alk [4] g (fc_X11_postings σ v) (fm_postings τ v) := by
  have hC := hR.2.1.2.2.1
  have ht := hR.1.2.2.1
  have hW40 := hR.1.1.1.1
  have hM : MTr (mI τ 0 (nI 0)) g.w g.t := hR.2.2.2.2.1.fr (mFr.I (List.mem_singleton.mpr rfl)) (by decide)
  have hz : fm_postings_14 τ v 1 = some (0, mI τ 0 (nI 1)) := by
    unfold fm_postings_14 fm_postings_29
    rw [show (1 : Int32) = nI 1 from rfl, wrong_s τ (by omega) (by omega)]
    exact if_neg nz1
  refine Alk.word1 (A := fun u z => fm_postings_14 u v z) hR rfl rfl rfl hz fun hv => ?_
  obtain ⟨e, h⟩ := vIn_of (by omega) hv
  have x1 : ¬ 40 ≤ v.toNatClampNeg := by omega
  have y : (v < (0 : Int32) ∨ False) = False := by
    rw [e, n0, jLt (by omega) (by omega)]
    simp
  refine Alk.v (v := nI (sPost g.t v.toNatClampNeg)) (ks := [0]) (τ' := mI τ 0 (nI 0)) hR ?_ ?_ (mI_at _ _ _) (mFr.I (by decide)) (by decide)
  · simp only [x1, y, if_false]
    rw [hC.2.2 _ (by omega)]
    rfl
  · unfold fm_postings_14 fm_postings_29
    rw [show (0 : Int32) = nI 0 from rfl, right_s]
    have g2 := fm_postingsOf_s ht hM (show v.toNatClampNeg < 64 by omega)
    rw [← e] at g2
    show (if nI 0 = nI 0 then (fm_postingsOf (mI τ 0 (nI 0)) v).bind fun r_2 => some (r_2.1, r_2.2) else _) = _
    rw [if_pos rfl, g2, Option.bind_some]
theorem meth_posting (hR : Rel g σ τ) (v i : Int32) : Alk [4, 5] g (fc_X11_posting σ v i) (fm_posting τ v i) := by
  have hC := hR.2.1.2.2.1
  have ht := hR.1.2.2.1
  have h80 := ht.1.1
  have hW40 := hR.1.1.1.1
  have hM : MTr (mI τ 0 (nI 0)) g.w g.t := hR.2.2.2.2.1.fr (mFr.I (List.mem_singleton.mpr rfl)) (by decide)
  have hz : fm_posting_14 τ v i 1 = some (0, mI τ 0 (nI 1)) := by
    unfold fm_posting_14
    rw [show (1 : Int32) = nI 1 from rfl, wrong_s τ (by omega) (by omega)]
    exact if_neg nz1
  refine Alk.word1 (A := fun u z => fm_posting_14 u v i z) hR rfl rfl rfl hz fun hv => ?_
  obtain ⟨e, h⟩ := vIn_of (by omega) hv
  have g1 := fc_postingAt_s ht hC (show v.toNatClampNeg < 40 by omega) i
  rw [← e] at g1
  have em : fm_posting_14 τ v i 0 = fm_posting_27 3000 (mI τ 0 (nI 0)) v i i (nI 0) := by
    unfold fm_posting_14
    rw [show (0 : Int32) = nI 0 from rfl, right_s]
    exact if_pos rfl
  have ev : fm_posting_27 3000 (mI τ 0 (nI 0)) v i i (nI 0) = match sPosting g.t v.toNatClampNeg i with | some y => some (nI y, mI τ 0 (nI 0)) | none => some (nI 0, mI τ 0 (nI 2)) := by
    unfold sPosting
    by_cases q : i < nI 0
    · rw [if_pos q, fm_posting_n ht hM q, mI_twice]
    · obtain ⟨k, hk, rfl⟩ := nI_of q
      rw [if_neg q, nI_clamp hk]
      have g2 := fm_posting_l ht hM (k := v.toNatClampNeg) (v := k) (by omega) (by omega) g.t.N 0 k 3000 (by omega) (by omega) (Nat.le_refl _)
      rw [← e] at g2
      rw [g2]
      cases sNth (posP g.t v.toNatClampNeg) 0 g.t.N k with
      | none => show some (nI 0, mI (mI τ 0 (nI 0)) 0 (nI 2)) = _; rw [mI_twice]
      | some y => rfl
  rw [em, ev]
  show Alk [4, 5] g ((fc_X8_postingAt σ v i).bind fun r_2 => if r_2.1 = (-1 : Int32) then some (.inl 5, r_2.2) else some (.inr r_2.1, r_2.2)) _
  rw [g1, Option.bind_some]
  cases ep : sPosting g.t v.toNatClampNeg i with
  | none =>
    rw [if_pos (show oI none = (-1 : Int32) from rfl)]
    exact Alk.x (c := 5) (j := 1) (v := nI 0) hR rfl rfl rfl
  | some y =>
    have hy : y < 100000 := by
      unfold sPosting at ep
      split at ep
      · cases ep
      · have := sNth_lt _ _ _ ep
        omega
    rw [if_neg (show ¬ oI (some y) = (-1 : Int32) from fun h => (jM1 hy).mp h)]
    exact Alk.v (v := nI y) (ks := [0]) (τ' := mI τ 0 (nI 0)) hR rfl rfl (mI_at _ _ _) (mFr.I (by decide)) (by decide)
theorem meth_rare (hR : Rel g σ τ) (i : Int32) : Alk [2, 5] g (fc_X11_rare σ i) (fm_rare τ i) := by
  have hC := hR.2.1.2.2.1
  have ht := hR.1.2.2.1
  have hw := hR.1.1
  have h80 := ht.1.1
  have hW40 := hR.1.1.1.1
  have hM : MTr (mI τ 0 (nI 0)) g.w g.t := hR.2.2.2.2.1.fr (mFr.I (List.mem_singleton.mpr rfl)) (by decide)
  have hMW : MWd (mI τ 0 (nI 0)) g.w := hR.2.2.1.fr (ks := [0]) (mFr.I (by decide)) (by decide)
  refine Alk.begun (v := 0) hR rfl rfl rfl (fun τ' => if_neg nz1) fun h0 => ?_
  have hn := ht.1.2.1 h0
  have em : fm_rare_21 3000 (mI τ 0 (nI 0)) i (sKn g.t g.t.now) (nI 0) = match sRare g.t g.w.W (sKn g.t g.t.now) i with | some y => some (nI y, mI τ 0 (nI 0)) | none => some (nI 0, mI τ 0 (nI 2)) := by
    by_cases q : i < nI 0
    · have hr : sRare g.t g.w.W (sKn g.t g.t.now) i = none := by
        unfold sRare
        rw [List.find?_eq_none]
        intro y _
        have : ¬ nI (sRar g.t g.w.W (sKn g.t g.t.now) y) = i := fun h => by
          have b : sRar g.t g.w.W (sKn g.t g.t.now) y ≤ g.w.W := sCnt_le _ _ _
          rw [← h, jLt (by omega) (by omega)] at q
          omega
        rw [decide_eq_false this, Bool.and_false]
        exact Bool.false_ne_true
      rw [hr, show (3000 : Nat) = 2999 + 1 from rfl, fm_rare_21, hMW.1.1]
      unfold fm_rare_138
      by_cases z : nI g.w.W ≤ nI 0
      · rw [if_pos z]
        show some (nI 0, mI (mI τ 0 (nI 0)) 0 (nI 2)) = _
        rw [mI_twice]
      · rw [if_neg z, if_pos (show i < 0 from q)]
        show some (nI 0, mI (mI τ 0 (nI 0)) 0 (nI 2)) = _
        rw [mI_twice]
    · have g2 := fm_rare_l hw hMW ht hM (s := sKn g.t g.t.now) q g.w.W 0 3000 (by omega) (by omega)
      rw [g2]
      unfold sRare
      cases (List.range' 0 g.w.W).find? fun k => sHas (sKn g.t g.t.now) k && decide (nI (sRar g.t g.w.W (sKn g.t g.t.now) k) = i) with
      | none => show some (nI 0, mI (mI τ 0 (nI 0)) 0 (nI 2)) = _; rw [mI_twice]
      | some y => rfl
  show Alk [2, 5] g ((fc_X8_current σ).bind fun r_2 => (dr r_2.2 7 r_2.1).bind fun i_3 => (fc_X2_wordsOfPath r_2.2 r_2.1).bind fun r_4 => (fc_X8_byRarity r_4.2 r_4.1 i).bind fun r_5 => if r_5.1 = (-1 : Int32) then some (.inl 5, r_5.2) else some (.inr r_5.1, r_5.2)) (if nI 0 = 0 then ((fm_knownAt (mI τ 0 (nI 0)) ((mI τ 0 (nI 0)).1 34)).bind fun r_2 => fm_rare_21 3000 r_2.2 i r_2.1 (nI 0)) else some (0, mI τ 0 (nI 0)))
  rw [fc_current_s ht hC h0, Option.bind_some, hC.dn hn, Option.bind_some, fc_wordsOfPath_s ht hC hn, Option.bind_some, fc_byRarity_s ht hC hW40 (sKn_wset ht hn), Option.bind_some, if_pos (show nI 0 = 0 from rfl), hM.1.2.1, fm_knownAt_s ht hM hn, Option.bind_some, em]
  cases ep : sRare g.t g.w.W (sKn g.t g.t.now) i with
  | none =>
    rw [if_pos (show oI none = (-1 : Int32) from rfl)]
    exact Alk.x (c := 5) (j := 1) (v := nI 0) hR rfl rfl rfl
  | some y =>
    have hy : y < 100000 := by
      have := List.mem_of_find?_eq_some ep
      rw [List.mem_range'_1] at this
      omega
    rw [if_neg (show ¬ oI (some y) = (-1 : Int32) from fun h => (jM1 hy).mp h)]
    exact Alk.v (v := nI y) (ks := [0]) (τ' := mI τ 0 (nI 0)) hR rfl rfl (mI_at _ _ _) (mFr.I (by decide)) (by decide)
theorem meth_weight (hR : Rel g σ τ) : Alk [2] g (fc_X11_weight σ) (fm_weight τ) := by
  have hC := hR.2.1.2.2.1
  have ht := hR.1.2.2.1
  have hw := hR.1.1
  have hW := hR.2.1.1
  have h80 := ht.1.1
  have hM : MTr (mI τ 0 (nI 0)) g.w g.t := hR.2.2.2.2.1.fr (mFr.I (List.mem_singleton.mpr rfl)) (by decide)
  have hMW : MWd (mI τ 0 (nI 0)) g.w := hR.2.2.1.fr (ks := [0]) (mFr.I (by decide)) (by decide)
  have e : fc_X11_weight σ = xb (fc_X11_needPlay σ) fun _ u => (fc_X3_carriedWeight u (some (g.t.now + 1))).bind fun r_2 => some (.inr r_2.1, r_2.2) := by
    unfold fc_X11_weight
    rw [fc_stateHere_s ht hC, xb_xb]
  refine Alk.begun (v := 0) hR rfl e rfl (fun τ' => if_neg nz1) fun h0 => ?_
  have hn := ht.1.2.1 h0
  have hs := (ht.2.2.1 _ hn).1
  obtain ⟨-, -, -, -, -, r5, -⟩ := hC.2.1 _ hn
  obtain ⟨τ1, t1, t2, t3, t4⟩ := fm_takesUp_s hw hMW (show g.t.now < 80 by omega) (hM.2 _ hn).2.2
  have g1 := fm_weightWith_s (m := none) hw (hMW.fr t4 (by decide)) hs t2 (fun b h => by cases h)
  refine Alk.v (v := nI (sWeight g.w (g.t.st g.t.now) none)) (ks := [0, 35, 36, 37, 38, 39]) (τ' := τ1) hR ?_ ?_ ?_ ?_ (by decide)
  · rw [fc_carriedWeight_s hw hW hs r5, Option.bind_some]
  · show (if nI 0 = 0 then ((fm_takesUp (mI τ 0 (nI 0)) ((mI τ 0 (nI 0)).1 34)).bind fun r_2 => (fm_weightWith r_2 (-1)).bind fun r_3 => some (r_3.1, r_3.2)) else _) = _
    rw [if_pos (show nI 0 = 0 from rfl), hM.1.2.1, t1, Option.bind_some, show (-1 : Int32) = oI none from rfl, g1, Option.bind_some]
  · rw [(t4 0 (by decide)).1, mI_at]
  · exact (mFr.I (show 0 ∈ [0, 35, 36, 37, 38, 39] by decide)).tr (t4.wk (by decide))
end F19
