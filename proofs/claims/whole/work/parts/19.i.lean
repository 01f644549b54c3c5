/-! Of the state where play is: lit. -/
section I19
variable {g : Gm} {σ : cS} {τ : mS}
theorem meth_lit (hR : Rel g σ τ) (v : Int32) : Alk [4, 2, 3] g (fc_X11_lit σ v) (fm_lit τ v) := by
  have hC := hR.2.1.2.2.1
  have ht := hR.1.2.2.1
  have hw := hR.1.1
  have h80 := ht.1.1
  have hT := hw.1.2.2.1
  unfold fc_X11_lit fm_lit fc_X11_lit_43
  rw [fc_needThing_s hw hR.2.1.1 v, fm_isThing_s hw hR.2.2.1, Option.bind_some, bI_if]
  by_cases q : vIn v g.w.T = true
  · obtain ⟨e, h⟩ := vIn_of (by omega) q
    have y : (v < (0 : Int32) ∨ False) = False := by
      rw [e, n0, jLt (by omega) (by omega)]
      simp
    have x1 : ¬ 12 ≤ v.toNatClampNeg := by omega
    have kd : g.w.kind v.toNatClampNeg < 1000 := by obtain ⟨-, -, -, -, h, -⟩ := hw.2.2.2.2.2.1 _ h; omega
    have e13 := (hR.2.2.1.2.2.2.2.2.1 _ h).2.2.2.1
    rw [if_pos q, if_pos q]
    have em : (if v < 0 ∨ 12 ≤ v.toNatClampNeg then none else if τ.2.2.1 13 v.toNatClampNeg = (108 : Int32) then fm_lit_26 τ v 1 v else fm_lit_25 τ v v) = fm_lit_26 τ v (bI (decide (g.w.kind v.toNatClampNeg = 108))) v := by
      simp only [x1, y, if_false]
      rw [e13]
      by_cases z : g.w.kind v.toNatClampNeg = 108
      · rw [if_pos (by rw [z]; rfl), decide_eq_true z]; rfl
      · rw [if_neg (show ¬ nI (g.w.kind v.toNatClampNeg) = (108 : Int32) from fun q => z ((jEq (b := 108) (by omega) (by omega)).mp q)), decide_eq_false z]; rfl
    have F : ∀ u : cS, (cS → Option ((Nat ⊕ Int32) × cS)) → True := fun _ _ => trivial
    show Alk [4, 2, 3] g (xb (fc_X11_stateHere σ) fun v_2 u_2 => xb (fc_X11_needKind u_2 v (108 : Int32)) fun v_3 u_3 => (dr u_3 6 v_2).bind fun i_4 => (dr u_3 13 (cR u_3 6 i_4 3)).bind fun i_5 => if v < 0 ∨ cln u_3 13 i_5 ≤ v.toNatClampNeg then none else if (cI u_3 13 i_5 v.toNatClampNeg) = 0 then (dr u_3 12 (cR u_3 6 i_4 2)).bind fun i_6 => if v < 0 ∨ cln u_3 12 i_6 ≤ v.toNatClampNeg then none else some (Sum.inr ((-1 : Int32) - (cI u_3 12 i_6 v.toNatClampNeg)), u_3) else (dr u_3 12 (cR u_3 6 i_4 2)).bind fun i_7 => if v < 0 ∨ cln u_3 12 i_7 ≤ v.toNatClampNeg then none else some (Sum.inr (cI u_3 12 i_7 v.toNatClampNeg), u_3)) (if v < 0 ∨ 12 ≤ v.toNatClampNeg then none else if τ.2.2.1 13 v.toNatClampNeg = (108 : Int32) then fm_lit_26 τ v 1 v else fm_lit_25 τ v v)
    rw [em, fc_stateHere_s ht hC, xb_xb, fc_needPlay_s hC h80]
    unfold fm_lit_26 fm_lit_73
    rw [fm_isNoThing_s hw hR.2.2.1 hR.2.2.2.2.1 v, Option.bind_some, if_pos q]
    by_cases z : g.t.N = 0
    · rw [if_pos z, if_pos z]
      exact Alk.x (c := 2) (j := 1) (v := 0) hR rfl (if_neg nz1) rfl
    · have hn := ht.1.2.1 (by omega)
      have hM : MTr (mI τ 0 (nI 0)) g.w g.t := hR.2.2.2.2.1.fr (mFr.I (List.mem_singleton.mpr rfl)) (by decide)
      obtain ⟨-, -, -, -, -, r5, -⟩ := hC.2.1 _ hn
      obtain ⟨d1, -, d3, d4⟩ := r5.cons
      rw [if_neg z, if_neg z]
      show Alk [4, 2, 3] g (xb (fc_X11_needKind σ v (nI 108)) fun v_3 u_3 => (dr u_3 6 (some (g.t.now + 1))).bind fun i_4 => (dr u_3 13 (cR u_3 6 i_4 3)).bind fun i_5 => if v < 0 ∨ cln u_3 13 i_5 ≤ v.toNatClampNeg then none else if (cI u_3 13 i_5 v.toNatClampNeg) = 0 then (dr u_3 12 (cR u_3 6 i_4 2)).bind fun i_6 => if v < 0 ∨ cln u_3 12 i_6 ≤ v.toNatClampNeg then none else some (Sum.inr ((-1 : Int32) - (cI u_3 12 i_6 v.toNatClampNeg)), u_3) else (dr u_3 12 (cR u_3 6 i_4 2)).bind fun i_7 => if v < 0 ∨ cln u_3 12 i_7 ≤ v.toNatClampNeg then none else some (Sum.inr (cI u_3 12 i_7 v.toNatClampNeg), u_3)) _
      rw [fc_needKind_s hw hR.2.1.1 q (by omega)]
      by_cases kz : g.w.kind v.toNatClampNeg = 108
      · rw [if_pos kz, if_pos (decide_eq_true kz)]
        have x2 : ¬ 960 ≤ 12 * g.t.now + v.toNatClampNeg := by omega
        have e34 : (mI τ 0 (nI 0)).1 34 = nI g.t.now := hM.1.2.1
        obtain ⟨-, e24, e23⟩ := (hM.2 _ hn).2.2.2 v.toNatClampNeg h
        obtain ⟨-, c1, c2⟩ := r5.2.2.2 v.toNatClampNeg (by omega)
        have y2 : (nI (12 * g.t.now + v.toNatClampNeg) < (0 : Int32) ∨ False) = False := by
          rw [n0, jLt (by omega) (by omega)]
          simp
        have ea : (12 : Int32) * nI g.t.now + v = nI (12 * g.t.now + v.toNatClampNeg) := by
          rw [n12, jMul, ← jAdd, ← e]
        refine Alk.v (v := if (g.t.st g.t.now).on v.toNatClampNeg = true then nI ((g.t.st g.t.now).fu v.toNatClampNeg) else (-1 : Int32) - nI ((g.t.st g.t.now).fu v.toNatClampNeg)) (ks := [0]) (τ' := mI τ 0 (nI 0)) hR ?_ ?_ (mI_at _ _ _) (mFr.I (by decide)) (by decide)
        · show ((dr σ 6 (some (g.t.now + 1))).bind fun i_4 => (dr σ 13 (cR σ 6 i_4 3)).bind fun i_5 => if v < 0 ∨ cln σ 13 i_5 ≤ v.toNatClampNeg then none else if (cI σ 13 i_5 v.toNatClampNeg) = 0 then (dr σ 12 (cR σ 6 i_4 2)).bind fun i_6 => if v < 0 ∨ cln σ 12 i_6 ≤ v.toNatClampNeg then none else some (Sum.inr ((-1 : Int32) - (cI σ 12 i_6 v.toNatClampNeg)), σ) else (dr σ 12 (cR σ 6 i_4 2)).bind fun i_7 => if v < 0 ∨ cln σ 12 i_7 ≤ v.toNatClampNeg then none else some (Sum.inr (cI σ 12 i_7 v.toNatClampNeg), σ)) = _
          rw [d1, Option.bind_some, d4, Option.bind_some, d3, Option.bind_some, Option.bind_some, r5.2.1.2.2.2.2, r5.2.1.2.2.2.1]
          simp only [x1, y, if_false, c1, c2, bI_if]
          cases (g.t.st g.t.now).on v.toNatClampNeg <;> rfl
        · show (if nI 0 = 0 then (if ((12 : Int32) * ((mI τ 0 (nI 0)).1 34)) + v < 0 ∨ 960 ≤ (((12 : Int32) * ((mI τ 0 (nI 0)).1 34)) + v).toNatClampNeg then none else if ((12 : Int32) * ((mI τ 0 (nI 0)).1 34)) + v < 0 ∨ 960 ≤ (((12 : Int32) * ((mI τ 0 (nI 0)).1 34)) + v).toNatClampNeg then none else if (mI τ 0 (nI 0)).2.2.1 23 (((12 : Int32) * ((mI τ 0 (nI 0)).1 34)) + v).toNatClampNeg = 0 then some ((-1 : Int32) - (mI τ 0 (nI 0)).2.2.1 24 (((12 : Int32) * ((mI τ 0 (nI 0)).1 34)) + v).toNatClampNeg, mI τ 0 (nI 0)) else some ((mI τ 0 (nI 0)).2.2.1 24 (((12 : Int32) * ((mI τ 0 (nI 0)).1 34)) + v).toNatClampNeg, mI τ 0 (nI 0))) else _) = _
          rw [if_pos (show nI 0 = 0 from rfl), e34, ea, jCl (by omega)]
          simp only [x2, y2, if_false, e23, e24, bI_if]
          cases (g.t.st g.t.now).on v.toNatClampNeg <;> rfl
      · rw [if_neg kz, if_neg (show ¬ decide (g.w.kind v.toNatClampNeg = 108) = true by rw [decide_eq_true_iff]; exact kz)]
        exact Alk.x (c := 3) (j := 2) (v := 0) hR rfl (if_neg nz1) rfl
  · rw [if_neg q, if_neg q]
    refine Alk.x (c := 4) (j := 0) (v := 0) hR rfl ?_ rfl
    unfold fm_lit_25 fm_lit_26
    rw [show (0 : Int32) = bI false from rfl, fm_isNoThing_s hw hR.2.2.1 hR.2.2.2.2.1 v, Option.bind_some, if_neg q]
    exact if_neg nz1
end I19
