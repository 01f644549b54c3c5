/-! The shop's calls that change nothing: isOwned, price, sale. -/
theorem xb_ifN {β γ : Type} {σ : cS} {p : Prop} [Decidable p] {c : Nat} {u : β} {F : β → cS → Option ((Nat ⊕ γ) × cS)} : xb (some (if p then .inl c else .inr u, σ)) F = if p then some (.inl c, σ) else F u σ := by
  by_cases h : p
  · rw [if_pos h, if_pos h]; rfl
  · rw [if_neg h, if_neg h]; rfl
section K20
variable {g : Gm} {σ σ1 : cS} {τ τ1 : mS}
theorem mr0 {g : Gm} {τ : mS} (h : MR τ g) : MR (mI τ 0 (nI 0)) g := h.th _
theorem meth_isOwned (hR : Rel g σ τ) (v : Int32) : Alk [4, 2] g (fc_X11_isOwned σ v) (fm_isOwned τ v) := by
  obtain ⟨⟨k1, k2, k3, hp, k5, k6⟩, ⟨r1, r2, r3, hC, r5, r6, r7, s0, r8⟩, ⟨m1, m2, m3, m4, m5, hM⟩⟩ := id hR
  obtain ⟨n1', n2, n3, n4, n5, n6'⟩ := mr0 hR.2.2
  have bad : ∀ k, 0 < k → k < 1000 → fm_isOwned_25 τ v (nI k) = some (nI 0, mI τ 0 (nI k)) := fun k h1 h2 => by
    unfold fm_isOwned_25 fm_isOwned_43 fm_isOwned_44
    rw [wrong_s τ (by omega) h1]
    refine (if_neg nz1).trans ?_
    exact if_pos (by decide)
  unfold fc_X11_isOwned fm_isOwned
  rw [fc_needHint_s hp hC, xb_if, fm_isHint_s hp hM, Option.bind_some, bI_if]
  refine Alk.ite (fun qx => ?_) fun _ => Alk.x (c := 4) (j := 0) (v := nI 0) hR rfl (bad 1 (by omega) (by omega)) rfl
  show Alk [4, 2] g (xb (fc_X11_needPlay σ) _) (if τ.1 20 = 0 then _ else _)
  rw [fc_needPlay_s r3 k3.1.1, xb_ifN, begun_if m3]
  refine Alk.ite (fun z => Alk.x (c := 2) (j := 1) (v := nI 0) hR rfl (bad 2 (by omega) (by omega)) rfl) fun z => ?_
  have h12 := hp.1.1
  have hS80 : g.p.S ≤ 80 := Nat.le_trans hp.1.2 k3.1.1
  obtain ⟨h, rfl, hh⟩ := vIn_ex (by omega) qx
  refine Alk.v (v := bI (sOwn g.t g.p 0 g.p.S h)) (ks := [0]) (τ' := mI τ 0 (nI 0)) hR ?_ ?_ (mI_at _ _ _) (mFr.I (by decide)) (by decide)
  · rw [fc_current_s k3 r3 (by omega), Option.bind_some]
    show (fc_X5_isOwnedAt_2 3000 σ (nI h) (some g.t.now) (nI 0)).bind _ = _
    rw [fc_owned_l k3 r3 (by omega) hp hC (h := h) (by omega) g.p.S 0 3000 (by omega) (by omega), Option.bind_some]
    exact if_neg (fun q => q (bI_z _))
  · unfold fm_isOwned_25 fm_isOwned_43 fm_isOwned_44
    rw [show fm_isWrong τ 0 = fm_isWrong τ (nI 0) from rfl, right_s]
    show (if nI 0 = 0 then (fm_isOwnedNow_4 3000 (mI τ 0 (nI 0)) (nI h) (bI false) (nI 0)).bind _ else _) = _
    rw [if_pos (show nI 0 = 0 from rfl), fm_owned_l k3 n3 (by omega) hp n6' (h := h) (by omega) g.p.S 0 false 3000 (by omega) (by omega), Option.bind_some, Bool.false_or, bI_if]
    cases sOwn g.t g.p 0 g.p.S h with
    | true => rfl
    | false => rfl
theorem fc_notOwned_s {w : Wd} {t : Tr} {p : Sp} (ht : Tr.ok w t) (hT : CTr σ t) (h0 : 0 < t.N) (hp : Sp.ok w t p) (hC : CSp σ p) {h : Nat} (hh : h < 1000) : fc_X11_needNotOwned σ (nI h) = some (if sOwn t p 0 p.S h = true then .inl 3 else .inr (), σ) := by
  have hS80 : p.S ≤ 80 := Nat.le_trans hp.1.2 ht.1.1
  unfold fc_X11_needNotOwned
  rw [fc_current_s ht hT h0, Option.bind_some]
  show (fc_X5_isOwnedAt_2 3000 σ (nI h) (some t.now) (nI 0)).bind _ = _
  rw [fc_owned_l ht hT h0 hp hC hh p.S 0 3000 (by omega) (by omega), Option.bind_some, bI_if]
  by_cases q : sOwn t p 0 p.S h = true
  · rw [if_pos q, if_pos q]
  · rw [if_neg q, if_neg q]
theorem meth_price (hR : Rel g σ τ) (v : Int32) : Alk [4, 2, 3] g (fc_X11_price σ v) (fm_price τ v) := by
  obtain ⟨⟨k1, k2, k3, hp, k5, k6⟩, ⟨r1, r2, r3, hC, r5, r6, r7, s0, r8⟩, ⟨m1, m2, m3, m4, m5, hM⟩⟩ := id hR
  obtain ⟨n1', n2, n3, n4, n5, n6'⟩ := mr0 hR.2.2
  have bad : ∀ k, 0 < k → k < 1000 → fm_price_37 τ v (nI k) = some (0, mI τ 0 (nI k)) := fun k h1 h2 => by
    unfold fm_price_37 fm_price_52
    rw [wrong_s τ (by omega) h1]
    exact if_neg nz1
  unfold fc_X11_price fm_price
  rw [fc_needHint_s hp hC, xb_if, fm_isHint_s hp hM, Option.bind_some, bI_if]
  refine Alk.ite (fun qx => ?_) fun _ => Alk.x (c := 4) (j := 0) (v := 0) hR rfl (bad 1 (by omega) (by omega)) rfl
  show Alk [4, 2, 3] g (xb (fc_X11_needPlay σ) _) (if τ.1 20 = 0 then _ else _)
  rw [fc_needPlay_s r3 k3.1.1, xb_ifN, begun_if m3]
  refine Alk.ite (fun z => Alk.x (c := 2) (j := 1) (v := 0) hR rfl (bad 2 (by omega) (by omega)) rfl) fun z => ?_
  have h12 := hp.1.1
  have hS80 : g.p.S ≤ 80 := Nat.le_trans hp.1.2 k3.1.1
  obtain ⟨h, rfl, hh⟩ := vIn_ex (by omega) qx
  show Alk [4, 2, 3] g (xb (fc_X11_needNotOwned σ (nI h)) _) ((fm_isOwnedNow_4 3000 τ (nI h) (bI false) (nI 0)).bind _)
  rw [fc_notOwned_s k3 r3 (by omega) hp hC (by omega), xb_ifN, fm_owned_l k3 m3 (by omega) hp hM (h := h) (by omega) g.p.S 0 false 3000 (by omega) (by omega), Option.bind_some, Bool.false_or, bI_if]
  refine Alk.ite (fun q => Alk.x (c := 3) (j := 2) (v := 0) hR rfl (bad 3 (by omega) (by omega)) rfl) fun q => ?_
  refine Alk.v (v := sPrice g.t g.p h) (ks := [0]) (τ' := mI τ 0 (nI 0)) hR ?_ ?_ (mI_at _ _ _) (mFr.I (by decide)) (by decide)
  · rw [fc_current_s k3 r3 (by omega), Option.bind_some]
    show (fc_X5_priceAt σ (nI h) (some g.t.now)).bind _ = _
    rw [fc_price_s k3 r3 (by omega) hp hC k1 hh, Option.bind_some]
  · unfold fm_price_37 fm_price_52
    rw [show fm_isWrong τ 0 = fm_isWrong τ (nI 0) from rfl, right_s]
    show (if nI 0 = 0 then (fm_priceNow (mI τ 0 (nI 0)) (nI h)).bind _ else _) = _
    rw [if_pos (show nI 0 = 0 from rfl), fm_price_s k3 n3 (by omega) hp n6' hh, Option.bind_some]
theorem meth_sale (hR : Rel g σ τ) (v : Int32) {c : Nat} (hc : c < 65536) : Alk [4, 1] g (fc_X11_sale σ v (nI c)) (fm_sale τ v (nI c)) := by
  obtain ⟨⟨k1, k2, k3, hp, k5, k6⟩, ⟨r1, r2, r3, hC, r5, r6, r7, s0, r8⟩, ⟨m1, m2, m3, m4, m5, hM⟩⟩ := id hR
  have hS80 : g.p.S ≤ 80 := Nat.le_trans hp.1.2 k3.1.1
  have h80 := k3.1.1
  have bad : ∀ k, 0 < k → k < 1000 → fm_sale_42 τ v (nI c) (nI k) = some (0, mI τ 0 (nI k)) := fun k h1 h2 => by
    unfold fm_sale_42 fm_sale_91
    rw [wrong_s τ (by omega) h1]
    exact if_neg nz1
  unfold fc_X11_sale fm_sale fm_sale_41 fc_X11_sale_18
  rw [hM.1.2.2, fm_isBetween_s (by omega), Option.bind_some, bI_if, hC.1.2.2.2.1.size, Option.bind_some]
  by_cases q : vIn v g.p.S = true
  · obtain ⟨s, rfl, hs⟩ := vIn_ex (by omega) q
    obtain ⟨y1, y2, y3⟩ := hM.2.2.2 s hs
    obtain ⟨x1, x2, x3⟩ := hC.2.2.2 s hs
    obtain ⟨z1, z2, z3⟩ := hp.2.2.2.1 s hs
    have h9 : s < cn σ 9 := by rw [hC.1.2.2.2.2]; exact hs
    rw [if_pos q, n0, if_neg (show ¬ nI s < nI 0 by rw [jLt (by omega) (by omega)]; omega)]
    refine (congrArg (fun z => Alk [4, 1] g z _) (if_pos (show nI s < nI g.p.S from (jLt (by omega) (by omega)).mpr hs))).mpr ?_
    have e1 : (nI c = (104 : Int32)) = (c = 104) := propext (jEq (b := 104) (by omega) (by omega))
    have e2 : (nI c = (110 : Int32)) = (c = 110) := propext (jEq (b := 110) (by omega) (by omega))
    have e3 : (nI c = (99 : Int32)) = (c = 99) := propext (jEq (b := 99) (by omega) (by omega))
    show Alk [4, 1] g ((fc_Jx4a65c_get_915e3 σ (some 1) (nI s) 9).bind _) _
    rw [hC.1.2.2.2.1.get hs (by omega), Option.bind_some]
    refine (congrArg (fun z => Alk [4, 1] g z _) (if_neg (fun z => (lvq_mk h9).mp z))).mpr ?_
    show Alk [4, 1] g (if nI c = (99 : Int32) then (dr σ 9 (some s)).bind (fun i_3 => some (.inr (cI σ 9 i_3 2), σ)) else if nI c = (104 : Int32) then (dr σ 9 (some s)).bind (fun i_4 => some (.inr (cI σ 9 i_4 0), σ)) else if nI c = (110 : Int32) then (dr σ 9 (some s)).bind (fun i_5 => (dr σ 7 (cR σ 9 i_5 1)).bind fun i_6 => some (.inr (cI σ 7 i_6 0), σ)) else some (.inl 1, σ)) _
    rw [dr_mk h9, Option.bind_some, Option.bind_some, Option.bind_some, x1, x2, x3, r3.dn z3, Option.bind_some, (r3.2.1 _ z3).1]
    have i1 : ¬ (nI s < nI 0 ∨ 80 ≤ (nI s).toNatClampNeg) := fun z => (jIn (show s < 80 by omega) (by omega)).mp z
    have e42 : fm_sale_42 τ (nI s) (nI c) (nI 0) = some (if c = 104 then nI (g.p.sh s) else if c = 110 then nI (g.p.sn s) else g.p.sc s, mI τ 0 (nI 0)) := by
      unfold fm_sale_42 fm_sale_91
      rw [right_s]
      show (if nI 0 = 0 then (if nI c = (104 : Int32) then (if nI s < nI 0 ∨ 80 ≤ (nI s).toNatClampNeg then none else if τ.2.2.1 47 (nI s).toNatClampNeg < nI 0 ∨ 80 ≤ (τ.2.2.1 47 (nI s).toNatClampNeg).toNatClampNeg then none else some (τ.2.2.1 32 (τ.2.2.1 47 (nI s).toNatClampNeg).toNatClampNeg, mI τ 0 (nI 0))) else if nI c = (110 : Int32) then (if nI s < nI 0 ∨ 80 ≤ (nI s).toNatClampNeg then none else some (τ.2.2.1 47 (nI s).toNatClampNeg, mI τ 0 (nI 0))) else (if nI s < nI 0 ∨ 80 ≤ (nI s).toNatClampNeg then none else some (τ.2.2.1 48 (nI s).toNatClampNeg, mI τ 0 (nI 0)))) else _) = _
      rw [if_pos (show nI 0 = 0 from rfl), if_neg i1, if_neg i1, if_neg i1, jCl (by omega), y1, y2, if_neg (fun z => (jIn (show g.p.sn s < 80 by omega) (by omega)).mp z), jCl (by omega), y3]
      simp only [e1, e2]
      by_cases c1 : c = 104
      · rw [if_pos c1, if_pos c1]
      · rw [if_neg c1, if_neg c1]
        by_cases c2 : c = 110
        · rw [if_pos c2, if_pos c2]
        · rw [if_neg c2, if_neg c2]
    simp only [e1, e2, e3]
    by_cases c1 : c = 104
    · rw [if_neg (show ¬ c = 99 by omega), if_pos c1, if_pos c1]
      exact Alk.v (ks := [0]) hR rfl (by rw [e42, if_pos c1]) (mI_at _ _ _) (mFr.I (by decide)) (by decide)
    · by_cases c2 : c = 110
      · rw [if_neg (show ¬ c = 99 by omega), if_neg c1, if_pos c2, if_neg c1, if_pos c2]
        exact Alk.v (ks := [0]) hR rfl (by rw [e42, if_neg c1, if_pos c2]) (mI_at _ _ _) (mFr.I (by decide)) (by decide)
      · by_cases c3 : c = 99
        · rw [if_pos c3, if_neg c1, if_neg c2, if_pos c3]
          exact Alk.v (ks := [0]) hR rfl (by rw [e42, if_neg c1, if_neg c2]) (mI_at _ _ _) (mFr.I (by decide)) (by decide)
        · rw [if_neg c3, if_neg c1, if_neg c2, if_neg c1, if_neg c2, if_neg c3]
          exact Alk.x (c := 1) (j := 1) (v := 0) hR rfl (bad 2 (by omega) (by omega)) rfl
  · rw [if_neg q]
    refine Alk.x (c := 4) (j := 0) (v := 0) hR ?_ (bad 1 (by omega) (by omega)) rfl
    by_cases q1 : v < 0
    · rw [if_pos q1]
    · rw [if_neg q1]
      refine if_neg (fun z => q ?_)
      unfold vIn
      obtain ⟨j, hj, rfl⟩ := nI_of q1
      rw [Int32.lt_iff_toInt_lt, nI_toInt hj, nI_toInt (by omega)] at z
      rw [nI_clamp hj]
      exact decide_eq_true ⟨q1, by omega⟩
end K20
