/-! The hints told: teach. -/
section I20
variable {g : Gm} {σ σ1 : cS} {τ τ1 : mS}
theorem meth_teach (hR : Rel g σ τ) (x y : Int32) : Alk [4, 3, 2] g (fc_X11_teach σ x y) (fm_teach τ x y) := by
  obtain ⟨⟨k1, k2, k3, hp, k5, k6⟩, ⟨r1, r2, r3, hC, r5, r6, r7, s0, r8⟩, ⟨m1, m2, m3, m4, m5, hM⟩⟩ := id hR
  obtain ⟨⟨h12, hSN⟩, s2, s3, s4, s5, s6, s7⟩ := id hp
  obtain ⟨⟨h40, -⟩, -⟩ := id k1
  have bad : ∀ k, 0 < k → k < 1000 → fm_teach_65 τ x y (nI k) = some (0, mI τ 0 (nI k)) := fun k h1 h2 => by
    unfold fm_teach_65
    rw [wrong_s τ (by omega) h1]
    exact if_neg nz1
  unfold fc_X11_teach fm_teach fm_teach_17 fm_teach_42
  rw [fc_needHint_s hp hC, xb_if, fm_isHint_s hp hM, Option.bind_some, bI_if]
  refine Alk.ite (fun qx => ?_) fun _ => Alk.x (c := 4) (j := 0) (v := 0) hR rfl (bad 1 (by omega) (by omega)) rfl
  show Alk [4, 3, 2] g (xb (fc_X11_needWord σ y) _) (Option.bind (fm_isWord τ y) _)
  rw [fc_needWord_s k1 r1, xb_if, fm_isWord_s k1 m1, Option.bind_some, bI_if]
  refine Alk.ite (fun qy => ?_) fun _ => Alk.x (c := 4) (j := 0) (v := 0) hR rfl (bad 1 (by omega) (by omega)) rfl
  obtain ⟨h, rfl, hh⟩ := vIn_ex (by omega) qx
  obtain ⟨k, rfl, hk⟩ := vIn_ex (by omega) qy
  have x1 : ¬ (nI h < 0 ∨ 12 ≤ (nI h).toNatClampNeg) := fun z => (jIn (show h < 12 by omega) (by omega)).mp z
  have eC : cJ σ 15 3 h = g.p.te h := hC.2.2.1 h (by omega)
  have eM : τ.2.2.2 44 h = g.p.te h := hM.2.2.1 h (by omega)
  show Alk [4, 3, 2] g (if nI h < 0 ∨ 12 ≤ (nI h).toNatClampNeg then none else (fc_X11_includes σ (cJ σ 15 3 (nI h).toNatClampNeg) (nI k)).bind _) (if nI h < 0 ∨ 12 ≤ (nI h).toNatClampNeg then none else (fm_has (τ.2.2.2 44 (nI h).toNatClampNeg) (nI k)).bind _)
  rw [if_neg x1, if_neg x1, jCl (by omega), eC, eM, fc_includes_s (by omega), fm_has_s (by omega), Option.bind_some, Option.bind_some, bI_if, bI_if]
  refine Alk.ite (fun q1 => Alk.x (c := 3) (j := 1) (v := 0) hR rfl (bad 2 (by omega) (by omega)) rfl) fun q1 => ?_
  show Alk [4, 3, 2] g ((fc_X5_wasSold_2 3000 σ (nI h) (nI 0)).bind _) ((fm_wasSold_4 3000 τ (nI h) (bI false) (nI 0)).bind _)
  have hS80 : g.p.S ≤ 80 := Nat.le_trans hSN k3.1.1
  rw [fc_wasSold_l k3 hp hC (h := h) (by omega) g.p.S 0 3000 (by omega) (by omega), fm_wasSold_l k3 hp hM (h := h) (by omega) g.p.S 0 false 3000 (by omega) (by omega), Option.bind_some, Option.bind_some, Bool.false_or, bI_if, bI_if]
  refine Alk.ite (fun q2 => Alk.x (c := 3) (j := 1) (v := 0) hR rfl (bad 2 (by omega) (by omega)) rfl) fun q2 => ?_
  obtain ⟨w1, w2⟩ := s2 h
  have x1c : ¬ (nI h < 0 ∨ 12 ≤ h) := iN1 (by omega) (by omega)
  show Alk [4, 3, 2] g ((fc_J13_bitCount_95d88 σ (g.p.te h)).bind _) (if nI h < 0 ∨ 12 ≤ h then none else (fm_bits (τ.2.2.2 44 h)).bind _)
  rw [if_neg x1c, eM, fc_bitCount_s (wset_le w1 h40), fm_bits_s, Option.bind_some, Option.bind_some]
  show Alk [4, 3, 2] g (if nI (sBits (g.p.te h)) < nI 6 then _ else _) (if nI (sBits (g.p.te h)) = nI 6 then _ else _)
  by_cases q3 : sBits (g.p.te h) = 6
  · rw [if_neg (show ¬ nI (sBits (g.p.te h)) < nI 6 by rw [jLt (by omega) (by omega)]; omega), if_pos (show nI (sBits (g.p.te h)) = nI 6 by rw [q3])]
    exact Alk.x (c := 2) (j := 2) (v := 0) hR rfl (bad 3 (by omega) (by omega)) rfl
  · rw [if_pos (show nI (sBits (g.p.te h)) < nI 6 by rw [jLt (by omega) (by omega)]; omega), if_neg (show ¬ nI (sBits (g.p.te h)) = nI 6 by rw [jEq (by omega) (by omega)]; exact q3)]
    obtain ⟨s, hs⟩ : ∃ s, s = g.p.te h ||| wbit k := ⟨_, rfl⟩
    have hset : wset g.w.W s := by rw [hs]; exact wset_or w1 (wset_bit hk h40)
    have hbits : sBits s = sBits (g.p.te h) + 1 := by rw [hs]; exact sBits_add (by omega) (Bool.eq_false_iff.mpr q1)
    have hfr : mFr [0, 44] τ (mL (mI τ 0 (nI 0)) 44 h s) := (mFr.I (by decide)).tr (mFr.L (by decide))
    have hf : cFr [(15, 3)] σ (uJ σ 15 3 h s) := cFr.J (by simp)
    refine ⟨(g.w, g.l, g.t, pTe g.p h s), .inr (nI (sBits s)), uJ σ 15 3 h s, nI (sBits s), mL (mI τ 0 (nI 0)) 44 h s, ?_, ?_, ?_, hR.shop ?_ (Nat.le_refl _) ?_ ?_ hf (by decide) rfl hfr (by decide)⟩
    · show (if nI h < 0 ∨ 12 ≤ h then none else if nI h < 0 ∨ 12 ≤ h then none else (fc_J13_bitCount_95d88 (uJ σ 15 3 h ((g.p.te h) ||| wbit k)) (cJ (uJ σ 15 3 h ((g.p.te h) ||| wbit k)) 15 3 h)).bind fun r_6 => some (Sum.inr r_6.1, r_6.2)) = _
      rw [if_neg x1c, if_neg x1c, ← hs, uJ_at, if_pos rfl, fc_bitCount_s (wset_le hset h40), Option.bind_some]
    · unfold fm_teach_65
      rw [show fm_isWrong τ 0 = fm_isWrong τ (nI 0) from rfl, right_s]
      show (if nI 0 = 0 then (if nI h < 0 ∨ 12 ≤ (nI h).toNatClampNeg then none else if nI h < 0 ∨ 12 ≤ (nI h).toNatClampNeg then none else if nI h < 0 ∨ 12 ≤ (nI h).toNatClampNeg then none else (fm_bits ((mL (mI τ 0 (nI 0)) 44 (nI h).toNatClampNeg (τ.2.2.2 44 (nI h).toNatClampNeg ||| wbit k)).2.2.2 44 (nI h).toNatClampNeg)).bind fun r_2 => some (r_2, (mL (mI τ 0 (nI 0)) 44 (nI h).toNatClampNeg (τ.2.2.2 44 (nI h).toNatClampNeg ||| wbit k)))) else _) = _
      rw [if_pos (show nI 0 = 0 from rfl), if_neg x1, if_neg x1, if_neg x1, jCl (by omega), eM, ← hs, mL_at, if_pos rfl, fm_bits_s, Option.bind_some]
    · show Agr _ _ _ ((mI τ 0 (nI 0)).1 0)
      rw [mI_at]
      exact Agr.v
    · refine ⟨⟨h12, hSN⟩, fun j => ?_, fun j hj => ?_, s4, s5, s6, ?_⟩
      · rw [pTe_e]
        by_cases z : j = h
        · rw [if_pos z]
          exact ⟨hset, by omega⟩
        · rw [if_neg z]
          exact s2 j
      · have hj : g.p.H ≤ j := hj
        rw [pTe_e, if_neg (by omega)]
        exact s3 j hj
      · show Sp.paid (pTe g.p h s) g.p.S + g.p.co = 100 + g.p.ea
        rw [paid_cg (p' := pTe g.p h s) (p := g.p) rfl]
        exact s7
    · obtain ⟨a, b, c, d⟩ := hC
      refine ⟨a, b, fun j hj => ?_, d⟩
      rw [uJ_at, pTe_e]
      by_cases z : j = h
      · rw [if_pos z, if_pos z]
      · rw [if_neg z, if_neg z]
        exact c j hj
    · obtain ⟨a, b, c, d⟩ := hM
      refine ⟨a, b, fun j hj => ?_, d⟩
      rw [mL_at, pTe_e]
      by_cases z : j = h
      · rw [if_pos z, if_pos z]
      · rw [if_neg z, if_neg z]
        exact c j hj
end I20
