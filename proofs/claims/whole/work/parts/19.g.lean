/-! Of the state where play is: isBright, score, place. -/
section G19
variable {g : Gm} {σ : cS} {τ : mS}
theorem meth_isBright (hR : Rel g σ τ) : Alk [2] g (fc_X11_isBright σ) (fm_isBright τ) := by
  have hC := hR.2.1.2.2.1
  have ht := hR.1.2.2.1
  have hw := hR.1.1
  have hW := hR.2.1.1
  have h80 := ht.1.1
  have hM : MTr (mI τ 0 (nI 0)) g.w g.t := hR.2.2.2.2.1.fr (mFr.I (List.mem_singleton.mpr rfl)) (by decide)
  have hMW : MWd (mI τ 0 (nI 0)) g.w := hR.2.2.1.fr (ks := [0]) (mFr.I (by decide)) (by decide)
  have e : fc_X11_isBright σ = xb (fc_X11_needPlay σ) fun _ u => (fc_X3_hasLight u (some (g.t.now + 1))).bind fun r_2 => if ¬ (r_2.1 &&& 1 = r_2.1) then none else some (.inr r_2.1, r_2.2) := by
    unfold fc_X11_isBright
    rw [fc_stateHere_s ht hC, xb_xb]
  have hz : ∀ τ' : mS, (if ((nI 1, τ') : Int32 × mS).1 = 0 then ((fm_takesUp τ' (τ'.1 34)).bind fun r_2 => (fm_isBrightHere r_2).bind fun r_3 => if r_3.1 &&& 1 = r_3.1 then some (r_3.1, r_3.2) else none) else (if (0 : Int32) &&& 1 = (0 : Int32) then some ((0 : Int32), τ') else none)) = some (0, τ') := fun τ' => by
    rw [if_neg (show ¬ nI 1 = 0 from nz1), if_pos (show (0 : Int32) &&& 1 = 0 by decide)]
  refine Alk.begun (v := 0) hR rfl e rfl hz fun h0 => ?_
  have hn := ht.1.2.1 h0
  have hs := (ht.2.2.1 _ hn).1
  obtain ⟨-, -, -, -, -, r5, -⟩ := hC.2.1 _ hn
  obtain ⟨τ1, t1, t2, t3, t4⟩ := fm_takesUp_s hw hMW (show g.t.now < 80 by omega) (hM.2 _ hn).2.2
  have g1 := fm_isBrightHere_s hw (hMW.fr t4 (by decide)) hs t2
  refine Alk.v (v := bI (sLight g.w (g.t.st g.t.now))) (ks := [0, 35, 36, 37, 38, 39]) (τ' := τ1) hR ?_ ?_ ?_ ?_ (by decide)
  · rw [fc_hasLight_s hw hW hs r5, Option.bind_some, if_neg (fun h => h (bI_z _))]
  · show (if nI 0 = 0 then ((fm_takesUp (mI τ 0 (nI 0)) ((mI τ 0 (nI 0)).1 34)).bind fun r_2 => (fm_isBrightHere r_2).bind fun r_3 => if r_3.1 &&& 1 = r_3.1 then some (r_3.1, r_3.2) else none) else _) = _
    rw [if_pos (show nI 0 = 0 from rfl), hM.1.2.1, t1, Option.bind_some, g1, Option.bind_some]
    exact if_pos (bI_z _)
  · rw [(t4 0 (by decide)).1, mI_at]
  · exact (mFr.I (show 0 ∈ [0, 35, 36, 37, 38, 39] by decide)).tr (t4.wk (by decide))
theorem meth_score (hR : Rel g σ τ) : Alk [2] g (fc_X11_score σ) (fm_score τ) := by
  have hC := hR.2.1.2.2.1
  have ht := hR.1.2.2.1
  have hw := hR.1.1
  have hW := hR.2.1.1
  have h80 := ht.1.1
  have hG := hw.1.2.2.2
  have hM : MTr (mI τ 0 (nI 0)) g.w g.t := hR.2.2.2.2.1.fr (mFr.I (List.mem_singleton.mpr rfl)) (by decide)
  have hMW : MWd (mI τ 0 (nI 0)) g.w := hR.2.2.1.fr (ks := [0]) (mFr.I (by decide)) (by decide)
  have e : fc_X11_score σ = xb (fc_X11_needPlay σ) fun _ u => (fc_X3_goalsReached u (some (g.t.now + 1))).bind fun r_2 => some (.inr r_2.1, r_2.2) := by
    unfold fc_X11_score
    rw [fc_stateHere_s ht hC, xb_xb]
  refine Alk.begun (v := 0) hR rfl e rfl (fun τ' => if_neg nz1) fun h0 => ?_
  have hn := ht.1.2.1 h0
  have hs := (ht.2.2.1 _ hn).1
  obtain ⟨-, -, -, -, -, r5, -⟩ := hC.2.1 _ hn
  refine Alk.v (v := nI (sScore g.w (g.t.st g.t.now))) (ks := [0]) (τ' := mI τ 0 (nI 0)) hR ?_ ?_ (mI_at _ _ _) (mFr.I (by decide)) (by decide)
  · rw [fc_goals_s hw hW hs r5, Option.bind_some]
  · have g2 := fm_score_l hw hMW hs (show g.t.now < 80 by omega) hM.1.2.1 (hM.2 _ hn).2.2 g.w.Gl 0 0 3000 (by omega) (by omega)
    rw [Nat.zero_add] at g2
    show (if nI 0 = 0 then fm_score_13 3000 (mI τ 0 (nI 0)) 0 0 else _) = _
    rw [if_pos (show nI 0 = 0 from rfl)]
    exact g2
theorem fc_needThing_s {w : Wd} (hw : Wd.ok w) (hW : CWd σ w) (v : Int32) : fc_X11_needThing σ v = some (if vIn v w.T = true then .inr () else .inl 4, σ) := by
  unfold fc_X11_needThing
  rw [fc_hasThing_v hw hW, Option.bind_some, bI_if]
  by_cases q : vIn v w.T = true
  · rw [if_pos q, if_pos q]
  · rw [if_neg q, if_neg q]
theorem fm_isNoThing_s {w : Wd} {t : Tr} (hw : Wd.ok w) (hW : MWd τ w) (hM : MTr τ w t) (v : Int32) (b : Bool) : fm_isNoThing τ v (bI b) = some (if vIn v w.T = true then (if t.N = 0 then (nI 1, mI τ 0 (nI 2)) else if b = true then (nI 0, mI τ 0 (nI 0)) else (nI 1, mI τ 0 (nI 3))) else (nI 1, mI τ 0 (nI 1))) := by
  have o1 : nI 1 &&& 1 = nI 1 := by decide
  have o0 : nI 0 &&& 1 = nI 0 := by decide
  have o1' : nI 1 &&& nI 1 = nI 1 := by decide
  unfold fm_isNoThing fm_isNoThing_33
  rw [fm_isThing_s hw hW, Option.bind_some, bI_if]
  by_cases q : vIn v w.T = true
  · rw [if_pos q, if_pos q]
    show (if τ.1 20 = 0 then _ else _) = _
    rw [hM.1.2.2]
    by_cases z : t.N = 0
    · rw [if_pos (show bI (decide (0 < t.N)) = 0 by rw [decide_eq_false (by omega)]; rfl), if_pos z, show (2 : Int32) = nI 2 from rfl, wrong_s τ (by omega) (by omega)]
      exact if_pos o1
    · rw [if_neg (show ¬ bI (decide (0 < t.N)) = 0 by rw [decide_eq_true (by omega)]; decide), if_neg z]
      cases b with
      | false =>
        rw [if_pos (show bI false = 0 from rfl), if_neg Bool.false_ne_true, show (3 : Int32) = nI 3 from rfl, wrong_s τ (by omega) (by omega)]
        exact if_pos o1
      | true =>
        rw [if_neg (show ¬ bI true = 0 by decide), if_pos rfl, show (0 : Int32) = nI 0 from rfl, right_s]
        exact if_pos o0
  · rw [if_neg q, if_neg q, show (1 : Int32) = nI 1 from rfl, wrong_s τ (by omega) (by omega)]
    exact if_pos o1'
theorem meth_place (hR : Rel g σ τ) (v : Int32) : Alk [4, 2] g (fc_X11_place σ v) (fm_place τ v) := by
  have hC := hR.2.1.2.2.1
  have ht := hR.1.2.2.1
  have hw := hR.1.1
  have h80 := ht.1.1
  have hT := hw.1.2.2.1
  unfold fc_X11_place fm_place
  rw [fc_needThing_s hw hR.2.1.1 v, show (1 : Int32) = bI true from rfl, fm_isNoThing_s hw hR.2.2.1 hR.2.2.2.2.1 v true, Option.bind_some]
  by_cases q : vIn v g.w.T = true
  · obtain ⟨e, h⟩ := vIn_of (by omega) q
    rw [if_pos q, if_pos q]
    show Alk [4, 2] g (xb (fc_X11_stateHere σ) fun v_2 u_2 => (dr u_2 6 v_2).bind fun i_3 => (dr u_2 12 (cR u_2 6 i_3 1)).bind fun i_4 => if v < 0 ∨ cln u_2 12 i_4 ≤ v.toNatClampNeg then none else some (.inr (cI u_2 12 i_4 v.toNatClampNeg), u_2)) _
    rw [fc_stateHere_s ht hC, xb_xb, fc_needPlay_s hC h80]
    by_cases z : g.t.N = 0
    · rw [if_pos z, if_pos z]
      exact Alk.x (c := 2) (j := 1) (v := 0) hR rfl (if_neg nz1) rfl
    · have hn := ht.1.2.1 (by omega)
      have hM : MTr (mI τ 0 (nI 0)) g.w g.t := hR.2.2.2.2.1.fr (mFr.I (List.mem_singleton.mpr rfl)) (by decide)
      obtain ⟨-, -, -, -, -, r5, -⟩ := hC.2.1 _ hn
      obtain ⟨d1, d2, -, -⟩ := r5.cons
      have y : (v < (0 : Int32) ∨ False) = False := by
        rw [e, n0, jLt (by omega) (by omega)]
        simp
      have x1 : ¬ 12 ≤ v.toNatClampNeg := by omega
      have x2 : ¬ 960 ≤ 12 * g.t.now + v.toNatClampNeg := by omega
      rw [if_neg z, if_neg z, if_pos rfl]
      refine Alk.v (v := nI ((g.t.st g.t.now).pl v.toNatClampNeg)) (ks := [0]) (τ' := mI τ 0 (nI 0)) hR ?_ ?_ (mI_at _ _ _) (mFr.I (by decide)) (by decide)
      · show ((dr σ 6 (some (g.t.now + 1))).bind fun i_3 => (dr σ 12 (cR σ 6 i_3 1)).bind fun i_4 => if v < 0 ∨ cln σ 12 i_4 ≤ v.toNatClampNeg then none else some (Sum.inr (cI σ 12 i_4 v.toNatClampNeg), σ)) = _
        rw [d1, Option.bind_some, d2, Option.bind_some, r5.2.1.2.2.1]
        simp only [x1, y, if_false]
        rw [(r5.2.2.2 _ (by omega)).1]
      · have e34 : (mI τ 0 (nI 0)).1 34 = nI g.t.now := hM.1.2.1
        have e22 := ((hM.2 _ hn).2.2.2 v.toNatClampNeg h).1
        have y2 : (nI (12 * g.t.now + v.toNatClampNeg) < (0 : Int32) ∨ False) = False := by
          rw [n0, jLt (by omega) (by omega)]
          simp
        have ea : (12 : Int32) * nI g.t.now + v = nI (12 * g.t.now + v.toNatClampNeg) := by
          rw [n12, jMul, ← jAdd, ← e]
        show (if nI 0 = 0 then (if ((12 : Int32) * ((mI τ 0 (nI 0)).1 34)) + v < 0 ∨ 960 ≤ (((12 : Int32) * ((mI τ 0 (nI 0)).1 34)) + v).toNatClampNeg then none else fm_place_27 (mI τ 0 (nI 0)) ((mI τ 0 (nI 0)).2.2.1 22 (((12 : Int32) * ((mI τ 0 (nI 0)).1 34)) + v).toNatClampNeg)) else _) = _
        rw [if_pos (show nI 0 = 0 from rfl), e34, ea, jCl (by omega)]
        simp only [x2, y2, if_false, e22]
        rfl
  · rw [if_neg q, if_neg q]
    exact Alk.x (c := 4) (j := 0) (v := 0) hR rfl (if_neg nz1) rfl
end G19
