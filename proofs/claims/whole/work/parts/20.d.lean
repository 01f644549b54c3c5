/-! Told ahead of play: show, tell. -/
theorem vIn_ex {v : Int32} {N : Nat} (hN : N < 100000) (h : vIn v N = true) : ∃ r, v = nI r ∧ r < N := ⟨_, vIn_of hN h⟩
/-- other words that a room or a thing shows -/
def wSet (w : Wd) (a i : Nat) (s : Int64) : Wd := (w.1, w.2.1, w.2.2.1, (fun b j => if b = a ∧ j = i then s else w.2.2.2.1 b j), w.2.2.2.2)
section D20
variable {g : Gm} {σ : cS} {τ : mS} {w : Wd} {a i k : Nat} {s : Int64}
theorem wSet_ok (hw : Wd.ok w) (ha : (a = 0 ∧ i < w.R) ∨ (a = 1 ∧ i < w.T)) (hs : wset w.W s) : Wd.ok (wSet w a i s) := by
  obtain ⟨a1, b, c, d, e, f, hh, i1, j, k, m, n⟩ := hw
  have er : ∀ r, (wSet w a i s).rs r = if 0 = a ∧ r = i then s else w.rs r := fun _ => rfl
  have et : ∀ r, (wSet w a i s).ts r = if 1 = a ∧ r = i then s else w.ts r := fun _ => rfl
  refine ⟨a1, b, c, d, e, f, hh, fun x hx => ?_, fun r hr => ?_, k, fun r => ?_, fun r => ?_⟩
  · have hx : w.T ≤ x := hx
    rw [et, if_neg (fun h => by omega)]
    exact i1 x hx
  · have hr : w.R ≤ r := hr
    rw [er, if_neg (fun h => by omega)]
    exact j r hr
  · rw [er]
    split
    · exact hs
    · exact m r
  · rw [et]
    split
    · exact hs
    · exact n r
theorem CWd.set (hC : CWd σ w) (ha : a = 0 ∨ a = 1) : CWd (uJ σ 15 (1 + a) i s) (wSet w a i s) := by
  obtain ⟨c1, c5, c6, c7, c8, c9, c10, c11⟩ := hC
  have J : ∀ r f, cJ (uJ σ 15 (1 + a) i s) 15 r f = if r = 1 + a ∧ f = i then s else cJ σ 15 r f := fun r f => by
    show (if 15 = 15 ∧ r = 1 + a ∧ f = i then s else cJ σ 15 r f) = _
    by_cases h : r = 1 + a ∧ f = i
    · rw [if_pos ⟨rfl, h⟩, if_pos h]
    · rw [if_neg (fun z => h z.2), if_neg h]
  refine ⟨c1, fun x hx => ?_, c6, fun r hr => ?_, c8, c9, c10, c11⟩
  · rw [J, if_neg (fun h => by omega)]
    exact c5 x hx
  · obtain ⟨x1, x2⟩ := c7 r hr
    rw [J, J, x1, x2]
    show _ = (if 0 = a ∧ r = i then s else w.rs r) ∧ _ = (if 1 = a ∧ r = i then s else w.ts r)
    rcases ha with rfl | rfl
    · by_cases q : r = i
      · rw [if_pos ⟨rfl, q⟩, if_pos ⟨rfl, q⟩, if_neg (fun h => by omega), if_neg (fun h => by omega)]
        exact ⟨rfl, rfl⟩
      · rw [if_neg (fun h => q h.2), if_neg (fun h => q h.2), if_neg (fun h => q h.2), if_neg (fun h => q h.2)]
        exact ⟨rfl, rfl⟩
    · by_cases q : r = i
      · rw [if_neg (fun h => by omega), if_neg (fun h => by omega), if_pos ⟨rfl, q⟩, if_pos ⟨rfl, q⟩]
        exact ⟨rfl, rfl⟩
      · rw [if_neg (fun h => q h.2), if_neg (fun h => q h.2), if_neg (fun h => q h.2), if_neg (fun h => q h.2)]
        exact ⟨rfl, rfl⟩
theorem MWd.set (hM : MWd τ w) (ha : (a = 0 ∧ k = 6) ∨ (a = 1 ∧ k = 15)) : MWd (mL τ k i s) (wSet w a i s) := by
  obtain ⟨d1, d5, d6, d7, d8, d9, d10⟩ := hM
  refine ⟨d1, d5, d6, fun r hr => ?_, d8, d9, d10⟩
  obtain ⟨x1, x2⟩ := d7 r hr
  show _ = (if 0 = a ∧ r = i then s else w.rs r) ∧ _ = (if 1 = a ∧ r = i then s else w.ts r)
  rcases ha with ⟨rfl, rfl⟩ | ⟨rfl, rfl⟩
  · rw [mL_at, mL_ne _ _ _ (by decide), x1, x2]
    by_cases q : r = i
    · rw [if_pos q, if_pos ⟨rfl, q⟩, if_neg (fun h => by omega)]
      exact ⟨rfl, rfl⟩
    · rw [if_neg q, if_neg (fun h => q h.2), if_neg (fun h => q h.2)]
      exact ⟨rfl, rfl⟩
  · rw [mL_at, mL_ne _ _ _ (by decide), x1, x2]
    by_cases q : r = i
    · rw [if_pos q, if_neg (fun h => by omega), if_pos ⟨rfl, q⟩]
      exact ⟨rfl, rfl⟩
    · rw [if_neg q, if_neg (fun h => q h.2), if_neg (fun h => q h.2)]
      exact ⟨rfl, rfl⟩
theorem meth_show (hR : Rel g σ τ) (x y : Int32) : Alk [4, 2] g (fc_X11_show σ x y) (fm_show τ x y) := by
  have hw := hR.1.1
  have hC := hR.2.1.1
  have hM := hR.2.2.1
  have hT := hR.2.2.2.2.1
  have bad : ∀ k, 0 < k → k < 1000 → fm_show_33 τ x y (nI k) = some (0, mI τ 0 (nI k)) := fun k h1 h2 => by
    unfold fm_show_33
    rw [wrong_s τ (by omega) h1]
    exact if_neg nz1
  unfold fc_X11_show fm_show fm_show_17
  rw [fc_needRoom_s hw hC, xb_if, fm_isRoom_s hw hM, Option.bind_some, bI_if]
  refine Alk.ite (fun qr => ?_) fun _ => Alk.x (c := 4) (j := 0) (v := 0) hR rfl (bad 1 (by omega) (by omega)) rfl
  show Alk [4, 2] g (xb (fc_X11_needWord σ y) _) (Option.bind (fm_isWord τ y) _)
  rw [fc_needWord_s hw hC, xb_if, fm_isWord_s hw hM, Option.bind_some, bI_if]
  refine Alk.ite (fun qw => ?_) fun _ => Alk.x (c := 4) (j := 0) (v := 0) hR rfl (bad 1 (by omega) (by omega)) rfl
  show Alk [4, 2] g (xb (fc_X11_needNoPlay σ) _) (if τ.1 20 = 0 then _ else _)
  rw [fc_needNoPlay_s hR.2.1.2.2.1 hR.1.2.2.1.1.1, xb_ifP, begun_if hT]
  refine Alk.ite (fun h0 => ?_) fun _ => Alk.x (c := 2) (j := 1) (v := 0) hR rfl (bad 2 (by omega) (by omega)) rfl
  obtain ⟨⟨-, h12, -⟩, -⟩ := id hw
  obtain ⟨⟨h40, -⟩, -⟩ := id hw
  obtain ⟨r, rfl, hr⟩ := vIn_ex (by omega) qr
  obtain ⟨k, rfl, hk⟩ := vIn_ex (by omega) qw
  have i12 : ¬ (nI r < 0 ∨ 12 ≤ (nI r).toNatClampNeg) := fun h => (jIn (show r < 12 by omega) (by omega)).mp h
  obtain ⟨s, hs⟩ : ∃ s, s = g.w.rs r ||| wbit k := ⟨_, rfl⟩
  have hset : wset g.w.W s := by rw [hs]; exact wset_or (hw.2.2.2.2.2.2.2.2.2.2.1 r) (wset_bit hk h40)
  have eC : cJ σ 15 1 r = g.w.rs r := (hC.2.2.2.1 r (by omega)).1
  have eM : (mI τ 0 (nI 0)).2.2.2 6 r = g.w.rs r := (hM.2.2.2.1 r (by omega)).1
  refine Alk.ahead (v := nI (sBits s)) (w' := wSet g.w 0 r s) (σ' := uJ σ 15 1 r s) (τ' := mL (mI τ 0 (nI 0)) 6 r s) (ps := [(15, 1)]) (ks := [0, 6]) hR h0 ?_ ?_ (mI_at τ 0 (nI 0)) (wSet_ok hw (Or.inl ⟨rfl, hr⟩) hset) rfl (cFr.J (List.mem_singleton.mpr rfl)) (by decide) rfl ((mFr.I (by decide)).tr (mFr.L (by decide))) (by decide) (hC.set (Or.inl rfl)) (MWd.set (hM.fr (ks := [0]) (mFr.I (by decide)) (by decide)) (Or.inl ⟨rfl, rfl⟩))
  · show (if nI r < 0 ∨ 12 ≤ (nI r).toNatClampNeg then none else if nI r < 0 ∨ 12 ≤ (nI r).toNatClampNeg then none else if nI r < 0 ∨ 12 ≤ (nI r).toNatClampNeg then none else (fc_J13_bitCount_95d88 (uJ σ 15 1 (nI r).toNatClampNeg ((cJ σ 15 1 (nI r).toNatClampNeg) ||| wbit k)) (cJ (uJ σ 15 1 (nI r).toNatClampNeg ((cJ σ 15 1 (nI r).toNatClampNeg) ||| wbit k)) 15 1 (nI r).toNatClampNeg)).bind fun r_4 => some (Sum.inr r_4.1, r_4.2)) = _
    rw [if_neg i12, if_neg i12, if_neg i12, jCl (by omega), eC, ← hs, uJ_at, if_pos rfl, fc_bitCount_s (wset_le hset h40), Option.bind_some]
  · unfold fm_show_33
    rw [n0, right_s]
    show (if nI 0 = nI 0 then (if nI r < 0 ∨ 12 ≤ (nI r).toNatClampNeg then none else if nI r < 0 ∨ 12 ≤ (nI r).toNatClampNeg then none else if nI r < 0 ∨ 12 ≤ (nI r).toNatClampNeg then none else (fm_bits ((mL (mI τ 0 (nI 0)) 6 (nI r).toNatClampNeg (((mI τ 0 (nI 0)).2.2.2 6 (nI r).toNatClampNeg) ||| wbit k)).2.2.2 6 (nI r).toNatClampNeg)).bind fun r_2 => some (r_2, (mL (mI τ 0 (nI 0)) 6 (nI r).toNatClampNeg (((mI τ 0 (nI 0)).2.2.2 6 (nI r).toNatClampNeg) ||| wbit k)))) else _) = _
    rw [if_pos rfl, if_neg i12, if_neg i12, if_neg i12, jCl (by omega), eM, ← hs, mL_at, if_pos rfl, fm_bits_s, Option.bind_some]
theorem meth_tell (hR : Rel g σ τ) (x y : Int32) : Alk [4, 2] g (fc_X11_tell σ x y) (fm_tell τ x y) := by
  have hw := hR.1.1
  have hC := hR.2.1.1
  have hM := hR.2.2.1
  have hT := hR.2.2.2.2.1
  have bad : ∀ k, 0 < k → k < 1000 → fm_tell_33 τ x y (nI k) = some (0, mI τ 0 (nI k)) := fun k h1 h2 => by
    unfold fm_tell_33
    rw [wrong_s τ (by omega) h1]
    exact if_neg nz1
  unfold fc_X11_tell fm_tell fm_tell_17
  rw [fc_needThing_s hw hC, xb_if, fm_isThing_s hw hM, Option.bind_some, bI_if]
  refine Alk.ite (fun qr => ?_) fun _ => Alk.x (c := 4) (j := 0) (v := 0) hR rfl (bad 1 (by omega) (by omega)) rfl
  show Alk [4, 2] g (xb (fc_X11_needWord σ y) _) (Option.bind (fm_isWord τ y) _)
  rw [fc_needWord_s hw hC, xb_if, fm_isWord_s hw hM, Option.bind_some, bI_if]
  refine Alk.ite (fun qw => ?_) fun _ => Alk.x (c := 4) (j := 0) (v := 0) hR rfl (bad 1 (by omega) (by omega)) rfl
  show Alk [4, 2] g (xb (fc_X11_needNoPlay σ) _) (if τ.1 20 = 0 then _ else _)
  rw [fc_needNoPlay_s hR.2.1.2.2.1 hR.1.2.2.1.1.1, xb_ifP, begun_if hT]
  refine Alk.ite (fun h0 => ?_) fun _ => Alk.x (c := 2) (j := 1) (v := 0) hR rfl (bad 2 (by omega) (by omega)) rfl
  obtain ⟨⟨h40, -, h12, -⟩, -⟩ := id hw
  obtain ⟨r, rfl, hr⟩ := vIn_ex (by omega) qr
  obtain ⟨k, rfl, hk⟩ := vIn_ex (by omega) qw
  have i12 : ¬ (nI r < 0 ∨ 12 ≤ (nI r).toNatClampNeg) := fun h => (jIn (show r < 12 by omega) (by omega)).mp h
  obtain ⟨s, hs⟩ : ∃ s, s = g.w.ts r ||| wbit k := ⟨_, rfl⟩
  have hset : wset g.w.W s := by rw [hs]; exact wset_or (hw.2.2.2.2.2.2.2.2.2.2.2 r) (wset_bit hk h40)
  have eC : cJ σ 15 2 r = g.w.ts r := (hC.2.2.2.1 r (by omega)).2
  have eM : (mI τ 0 (nI 0)).2.2.2 15 r = g.w.ts r := (hM.2.2.2.1 r (by omega)).2
  refine Alk.ahead (v := nI (sBits s)) (w' := wSet g.w 1 r s) (σ' := uJ σ 15 2 r s) (τ' := mL (mI τ 0 (nI 0)) 15 r s) (ps := [(15, 2)]) (ks := [0, 15]) hR h0 ?_ ?_ (mI_at τ 0 (nI 0)) (wSet_ok hw (Or.inr ⟨rfl, hr⟩) hset) rfl (cFr.J (List.mem_singleton.mpr rfl)) (by decide) rfl ((mFr.I (by decide)).tr (mFr.L (by decide))) (by decide) (hC.set (Or.inr rfl)) (MWd.set (hM.fr (ks := [0]) (mFr.I (by decide)) (by decide)) (Or.inr ⟨rfl, rfl⟩))
  · show (if nI r < 0 ∨ 12 ≤ (nI r).toNatClampNeg then none else if nI r < 0 ∨ 12 ≤ (nI r).toNatClampNeg then none else if nI r < 0 ∨ 12 ≤ (nI r).toNatClampNeg then none else (fc_J13_bitCount_95d88 (uJ σ 15 2 (nI r).toNatClampNeg ((cJ σ 15 2 (nI r).toNatClampNeg) ||| wbit k)) (cJ (uJ σ 15 2 (nI r).toNatClampNeg ((cJ σ 15 2 (nI r).toNatClampNeg) ||| wbit k)) 15 2 (nI r).toNatClampNeg)).bind fun r_4 => some (Sum.inr r_4.1, r_4.2)) = _
    rw [if_neg i12, if_neg i12, if_neg i12, jCl (by omega), eC, ← hs, uJ_at, if_pos rfl, fc_bitCount_s (wset_le hset h40), Option.bind_some]
  · unfold fm_tell_33
    rw [n0, right_s]
    show (if nI 0 = nI 0 then (if nI r < 0 ∨ 12 ≤ (nI r).toNatClampNeg then none else if nI r < 0 ∨ 12 ≤ (nI r).toNatClampNeg then none else if nI r < 0 ∨ 12 ≤ (nI r).toNatClampNeg then none else (fm_bits ((mL (mI τ 0 (nI 0)) 15 (nI r).toNatClampNeg (((mI τ 0 (nI 0)).2.2.2 15 (nI r).toNatClampNeg) ||| wbit k)).2.2.2 15 (nI r).toNatClampNeg)).bind fun r_2 => some (r_2, (mL (mI τ 0 (nI 0)) 15 (nI r).toNatClampNeg (((mI τ 0 (nI 0)).2.2.2 15 (nI r).toNatClampNeg) ||| wbit k)))) else _) = _
    rw [if_pos rfl, if_neg i12, if_neg i12, if_neg i12, jCl (by omega), eM, ← hs, mL_at, if_pos rfl, fm_bits_s, Option.bind_some]
end D20
