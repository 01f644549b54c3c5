/-! The tree's calls: depth, parent, children, common. -/
section C19
variable {g : Gm} {σ : cS} {τ : mS}
theorem fm_isNode_s {w : Wd} {t : Tr} (hM : MTr τ w t) (h80 : t.N ≤ 80) (v : Int32) : fm_isNode τ v = some (bI (vIn v t.N), τ) := by
  unfold fm_isNode
  rw [hM.1.1, fm_isBetween_s (by omega), Option.bind_some]
  exact if_pos (bI_z _)
theorem fc_has_s {t : Tr} (hC : CTr σ t) (h80 : t.N ≤ 80) (v : Int32) : fc_X8_has σ v = some (bI (vIn v t.N), σ) := by
  unfold fc_X8_has fc_X8_has_19
  have h := v_in (v := v) (N := t.N) (f := fun z => fc_X8_has_20 σ z) (by omega)
  rw [hC.1.2.1.size, Option.bind_some]
  have e : ∀ b, fc_X8_has_20 σ (bI b) = some (bI b, σ) := fun b => if_pos (bI_z b)
  rw [← e]
  exact h
theorem fc_nodeOf_s {t : Tr} (hC : CTr σ t) (h80 : t.N ≤ 80) (v : Int32) : fc_X11_nodeOf σ v = some (if vIn v t.N = true then .inr (some v.toNatClampNeg) else .inl 4, σ) := by
  unfold fc_X11_nodeOf
  rw [fc_has_s hC h80, Option.bind_some, bI_if]
  by_cases q : vIn v t.N = true
  · obtain ⟨e, h⟩ := vIn_of (by omega) q
    rw [if_pos q, if_pos q]
    have g := hC.1.2.1.get h (by omega)
    rw [← e] at g
    show ((fc_Jx4a65c_get_915e3 σ (some 0) v 7).bind fun r_2 => if ¬ (lvq r_2.2 7 r_2.1 = true) then none else some (Sum.inr r_2.1, r_2.2)) = _
    rw [g, Option.bind_some]
    simp only [hC.lv h, if_false]
  · rw [if_neg q, if_neg q]
theorem wrong_s (τ : mS) {k : Nat} (hk : k < 100000) (h0 : 0 < k) {α : Type} (F : Int32 × mS → Option α) : (fm_isWrong τ (nI k)).bind F = F (nI 1, mI τ 0 (nI k)) := by
  rw [fm_isWrong_s τ hk, Option.bind_some, decide_eq_true h0]
  rfl
theorem right_s (τ : mS) {α : Type} (F : Int32 × mS → Option α) : (fm_isWrong τ (nI 0)).bind F = F (nI 0, mI τ 0 (nI 0)) := by
  rw [fm_isWrong_s τ (by omega), Option.bind_some, decide_eq_false (by omega)]
  rfl
theorem nz1 : ¬ nI 1 = (0 : Int32) := by decide
theorem meth_depth (hR : Rel g σ τ) (v : Int32) : Alk [4] g (fc_X11_depth σ v) (fm_depth τ v) := by
  have hC := hR.2.1.2.2.1
  have ht := hR.1.2.2.1
  have h80 := ht.1.1
  have hM : MTr (mI τ 0 (nI 0)) g.w g.t := hR.2.2.2.2.1.fr (mFr.I (List.mem_singleton.mpr rfl)) (by decide)
  have ef := fc_nodeOf_s hC h80 v
  have em := fm_isNode_s hR.2.2.2.2.1 h80 v
  unfold fc_X11_depth fm_depth
  rw [ef, em, Option.bind_some, bI_if]
  by_cases q : vIn v g.t.N = true
  · obtain ⟨e, h⟩ := vIn_of (by omega) q
    rw [if_pos q, if_pos q]
    refine Alk.v (v := nI (sDep g.t v.toNatClampNeg)) (ks := [0]) (τ' := mI τ 0 (nI 0)) hR ?_ ?_ (mI_at _ _ _) (mFr.I (by decide)) (by decide)
    · show ((dr σ 7 (some v.toNatClampNeg)).bind fun _ => (fc_X2_pathLength σ (some v.toNatClampNeg)).bind fun r_3 => some (Sum.inr r_3.1, r_3.2)) = _
      rw [hC.dn h, Option.bind_some, fc_pathLength_s ht hC h, Option.bind_some]
    · unfold fm_depth_14 fm_depth_29
      rw [show (0 : Int32) = nI 0 from rfl, right_s]
      show (if nI 0 = nI 0 then (fm_depthOf (mI τ 0 (nI 0)) v).bind fun r_2 => some (r_2.1, r_2.2) else _) = _
      have g2 := fm_depthOf_s ht hM h
      rw [← e] at g2
      rw [if_pos rfl, g2, Option.bind_some]
  · rw [if_neg q, if_neg q]
    refine Alk.x (c := 4) (j := 0) (v := 0) hR rfl ?_ rfl
    unfold fm_depth_14 fm_depth_29
    rw [show (1 : Int32) = nI 1 from rfl, wrong_s τ (by omega) (by omega)]
    exact if_neg nz1
theorem meth_parent (hR : Rel g σ τ) (v : Int32) : Alk [4, 5] g (fc_X11_parent σ v) (fm_parent τ v) := by
  have hC := hR.2.1.2.2.1
  have ht := hR.1.2.2.1
  have h80 := ht.1.1
  have ef := fc_nodeOf_s hC h80 v
  have em := fm_isNode_s hR.2.2.2.2.1 h80 v
  unfold fc_X11_parent fm_parent
  rw [ef, em, Option.bind_some, bI_if]
  by_cases q : vIn v g.t.N = true
  · obtain ⟨e, h⟩ := vIn_of (by omega) q
    obtain ⟨-, r1, -⟩ := hC.2.1 _ h
    rw [if_pos q, if_pos q]
    have ev : (v = 0) ↔ v.toNatClampNeg = 0 := by
      constructor
      · intro z; rw [z]; rfl
      · intro z; rw [e, z]; rfl
    by_cases z : v = 0
    · refine Alk.x (c := 5) (j := 1) (v := 0) hR ?_ ?_ rfl
      · show ((dr σ 7 (some v.toNatClampNeg)).bind fun i_2 => if cR σ 7 i_2 1 = none then some (Sum.inl 5, σ) else (dr σ 7 (cR σ 7 i_2 1)).bind fun i_3 => some (Sum.inr (cI σ 7 i_3 0), σ)) = _
        rw [hC.dn h, Option.bind_some, r1, if_pos (ev.mp z)]
        exact if_pos rfl
      · show (if v = 0 then fm_parent_22 τ v 2 else fm_parent_22 τ v 0) = _
        rw [if_pos z]
        unfold fm_parent_22 fm_parent_38
        rw [show (2 : Int32) = nI 2 from rfl, wrong_s τ (by omega) (by omega)]
        exact if_neg nz1
    · have hz : v.toNatClampNeg ≠ 0 := fun h => z (ev.mpr h)
      have hp := ht.2.1 _ (by omega) h
      have x1 : ¬ 80 ≤ v.toNatClampNeg := by omega
      have y : (v < (0 : Int32) ∨ False) = False := by
        rw [e, n0, jLt (by omega) (by omega)]
        simp
      refine Alk.v (v := nI (g.t.par v.toNatClampNeg)) (ks := [0]) (τ' := mI τ 0 (nI 0)) hR ?_ ?_ (mI_at _ _ _) (mFr.I (by decide)) (by decide)
      · show ((dr σ 7 (some v.toNatClampNeg)).bind fun i_2 => if cR σ 7 i_2 1 = none then some (Sum.inl 5, σ) else (dr σ 7 (cR σ 7 i_2 1)).bind fun i_3 => some (Sum.inr (cI σ 7 i_3 0), σ)) = _
        rw [hC.dn h, Option.bind_some, r1, if_neg hz, if_neg (fun h => by cases h), hC.dn (by omega), Option.bind_some, (hC.2.1 _ (show g.t.par v.toNatClampNeg < g.t.N by omega)).1]
      · show (if v = 0 then fm_parent_22 τ v 2 else fm_parent_22 τ v 0) = _
        rw [if_neg z]
        unfold fm_parent_22 fm_parent_38
        rw [show (0 : Int32) = nI 0 from rfl, right_s]
        show (if nI 0 = nI 0 then (if v < 0 ∨ 80 ≤ v.toNatClampNeg then none else some ((mI τ 0 (nI 0)).2.2.1 25 v.toNatClampNeg, mI τ 0 (nI 0))) else _) = _
        rw [if_pos rfl]
        simp only [x1, y, if_false]
        have e25 : (mI τ 0 (nI 0)).2.2.1 25 v.toNatClampNeg = nI (g.t.par v.toNatClampNeg) := by
          have := (hR.2.2.2.2.1.2 _ h).1
          rw [if_neg hz] at this
          exact this
        rw [e25]
  · rw [if_neg q, if_neg q]
    refine Alk.x (c := 4) (j := 0) (v := 0) hR rfl ?_ rfl
    unfold fm_parent_22 fm_parent_38
    rw [show (1 : Int32) = nI 1 from rfl, wrong_s τ (by omega) (by omega)]
    exact if_neg nz1
theorem meth_children (hR : Rel g σ τ) (v : Int32) : Alk [4] g (fc_X11_children σ v) (fm_children τ v) := by
  have hC := hR.2.1.2.2.1
  have ht := hR.1.2.2.1
  have h80 := ht.1.1
  have hM : MTr (mI τ 0 (nI 0)) g.w g.t := hR.2.2.2.2.1.fr (mFr.I (List.mem_singleton.mpr rfl)) (by decide)
  have ef := fc_nodeOf_s hC h80 v
  have em := fm_isNode_s hR.2.2.2.2.1 h80 v
  unfold fc_X11_children fm_children
  rw [ef, em, Option.bind_some, bI_if]
  by_cases q : vIn v g.t.N = true
  · obtain ⟨e, h⟩ := vIn_of (by omega) q
    rw [if_pos q, if_pos q]
    refine Alk.v (v := nI (sKids g.t v.toNatClampNeg)) (ks := [0]) (τ' := mI τ 0 (nI 0)) hR ?_ ?_ (mI_at _ _ _) (mFr.I (by decide)) (by decide)
    · show ((dr σ 7 (some v.toNatClampNeg)).bind fun i_2 => (fc_X8_childCount σ (cI σ 7 i_2 0)).bind fun r_3 => some (Sum.inr r_3.1, r_3.2)) = _
      rw [hC.dn h, Option.bind_some, (hC.2.1 _ h).1, fc_childCount_s ht hC h, Option.bind_some]
    · unfold fm_children_14
      rw [show (0 : Int32) = nI 0 from rfl, right_s]
      show (if nI 0 = nI 0 then fm_children_24 3000 (mI τ 0 (nI 0)) v (nI 0) else _) = _
      have hK : sKids g.t v.toNatClampNeg ≤ (g.t.N - 1) * 1 := sumR_le _ _ (fun y _ _ => by split <;> omega)
      have g2 := fm_children_l ht hM h (sKids g.t v.toNatClampNeg) 0 3000 (by omega) (by omega)
      rw [← e] at g2
      rw [if_pos rfl]
      exact g2
  · rw [if_neg q, if_neg q]
    refine Alk.x (c := 4) (j := 0) (v := 0) hR rfl ?_ rfl
    unfold fm_children_14
    rw [show (1 : Int32) = nI 1 from rfl, wrong_s τ (by omega) (by omega)]
    exact if_neg nz1
end C19
