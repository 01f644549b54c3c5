/-! Told ahead of play: fuel, goal. -/
/-- a lamp's fuel -/
def wFu (w : Wd) (x t : Nat) : Wd := (w.1, w.2.1, w.2.2.1, w.2.2.2.1, w.2.2.2.2.1, fun a j => if a = 4 then (if j = x then t else w.2.2.2.2.2 a j) else w.2.2.2.2.2 a j)
/-- a further goal -/
def wGl (w : Wd) (x r : Nat) : Wd := ((fun a => if a = 3 then w.Gl + 1 else w.1 a), w.2.1, w.2.2.1, w.2.2.2.1, w.2.2.2.2.1, fun a j => if a = 5 then (if j = w.Gl then x else w.2.2.2.2.2 a j) else if a = 6 then (if j = w.Gl then r else w.2.2.2.2.2 a j) else w.2.2.2.2.2 a j)
section G20
variable {g : Gm} {σ σ1 : cS} {τ τ1 : mS} {w : Wd} {x t r : Nat}
theorem wFu_f (j : Nat) : (wFu w x t).fu0 j = if j = x then t else w.fu0 j := rfl
theorem wGl_e (j : Nat) : (wGl w x r).gth j = (if j = w.Gl then x else w.gth j) ∧ (wGl w x r).grm j = (if j = w.Gl then r else w.grm j) := ⟨rfl, rfl⟩
theorem wFu_ok (hw : Wd.ok w) (hx : x < w.T) (ht : t ≤ 99) (hk : w.kind x = 108) : Wd.ok (wFu w x t) := by
  obtain ⟨a1, hb, c, d, e, fo, hh, i, j⟩ := hw
  refine ⟨a1, hb, c, d, e, fun y hy => ?_, hh, fun y hy => ?_, j⟩
  · obtain ⟨x1, x2, x3, x4, x5, x6, x7⟩ := fo y hy
    refine ⟨x1, x2, x3, x4, x5, ?_⟩
    rw [wFu_f]
    by_cases z : y = x
    · rw [if_pos z]
      exact ⟨ht, fun h => absurd (show w.kind y = 108 by rw [z]; exact hk) h⟩
    · rw [if_neg z]
      exact ⟨x6, x7⟩
  · have hy : w.T ≤ y := hy
    rw [wFu_f, if_neg (by omega)]
    exact i y hy
theorem wGl_ok (hw : Wd.ok w) (hx : x < w.T) (hr : r < w.R) (hg : w.Gl < 6) : Wd.ok (wGl w x r) := by
  obtain ⟨⟨a1, a2, a3, a4⟩, hb, c, d, e, fo, hh, i, j, k, m⟩ := hw
  have eG : (wGl w x r).Gl = w.Gl + 1 := rfl
  refine ⟨⟨a1, a2, a3, by omega⟩, hb, c, d, e, fo, hh, i, j, fun y hy => ?_, m⟩
  obtain ⟨e1, e2⟩ := wGl_e (w := w) (x := x) (r := r) y
  rw [eG] at hy
  rw [e1, e2]
  by_cases z : y = w.Gl
  · rw [if_pos z, if_pos z]
    exact ⟨hx, hr⟩
  · rw [if_neg z, if_neg z]
    exact k y (by omega)
theorem meth_fuel (hR : Rel g σ τ) (u v : Int32) : Alk [4, 1, 3, 2] g (fc_X11_fuel σ u v) (fm_fuel τ u v) := by
  have hw := hR.1.1
  have hC := hR.2.1.1
  have hM := hR.2.2.1
  have hT := hR.2.2.2.2.1
  have bad : ∀ k, 0 < k → k < 1000 → fm_fuel_54 τ u v (nI k) = some (0, mI τ 0 (nI k)) := fun k h1 h2 => by
    unfold fm_fuel_54
    rw [wrong_s τ (by omega) h1]
    exact if_neg nz1
  unfold fc_X11_fuel fm_fuel
  rw [fc_needThing_s hw hC, xb_if, fm_isThing_s hw hM, Option.bind_some, bI_if]
  refine Alk.ite (fun qx => ?_) fun _ => Alk.x (c := 4) (j := 0) (v := 0) hR rfl (bad 1 (by omega) (by omega)) rfl
  show Alk [4, 1, 3, 2] g (if v < nI 0 then fc_X11_fuel_15 σ else if v ≤ nI 99 then _ else fc_X11_fuel_15 σ) (Option.bind (fm_isBetween v (nI 0) (nI 99)) _)
  rw [bt_c v (by omega) (by omega), fm_betw_v v (by omega) (by omega), Option.bind_some, bI_if]
  refine Alk.ite (fun qv => ?_) fun _ => Alk.x (c := 1) (j := 1) (v := 0) hR rfl (bad 2 (by omega) (by omega)) rfl
  obtain ⟨⟨h40, h12, hT12, -⟩, -⟩ := id hw
  rw [show (108 : Int32) = nI 108 from rfl, fc_needKind_s hw hC qx (by omega), xb_ifP]
  obtain ⟨x, rfl, hx⟩ := vIn_ex (by omega) qx
  obtain ⟨t, ht, rfl⟩ : ∃ t, t ≤ 99 ∧ v = nI t := by
    obtain ⟨e1, e2, e3⟩ := vBt_of (by omega) qv
    exact ⟨_, e3, e1⟩
  have x1 : ¬ (nI x < 0 ∨ 12 ≤ (nI x).toNatClampNeg) := fun h => (jIn (show x < 12 by omega) (by omega)).mp h
  show Alk [4, 1, 3, 2] g (if _ then xb (fc_X11_needNoPlay σ) _ else _) (if nI x < 0 ∨ 12 ≤ (nI x).toNatClampNeg then none else if τ.2.2.1 13 (nI x).toNatClampNeg = nI 108 then (if τ.1 20 = 0 then fm_fuel_54 τ (nI x) (nI t) 0 else fm_fuel_54 τ (nI x) (nI t) 4) else fm_fuel_54 τ (nI x) (nI t) 3)
  have hkx : g.w.kind x < 1000 := by have := (hw.2.2.2.2.2.1 x hx).2.2.2.2.1; omega
  have ek : (nI (g.w.kind x) = nI 108) = (g.w.kind x = 108) := propext (jEq (by omega) (by omega))
  rw [if_neg x1, jCl (by omega), (hM.2.2.2.2.2.1 x hx).2.2.2.1]
  simp only [ek]
  refine Alk.ite (fun hk => ?_) fun _ => Alk.x (c := 3) (j := 2) (v := 0) hR rfl (bad 3 (by omega) (by omega)) rfl
  rw [fc_needNoPlay_s hR.2.1.2.2.1 hR.1.2.2.1.1.1, xb_ifP, begun_if hT]
  refine Alk.ite (fun h0 => ?_) fun _ => Alk.x (c := 2) (j := 3) (v := 0) hR rfl (bad 4 (by omega) (by omega)) rfl
  have eC : cI σ 12 7 x = nI (g.w.fu0 x) := (hC.2.2.2.2.2.2.1 x (by omega)).2
  have eM : (mI τ 0 (nI 0)).2.2.1 14 x = nI (g.w.fu0 x) := (hM.2.2.2.2.2.1 x hx).2.2.2.2
  have hfr : mFr [0, 14] τ (mA (mI τ 0 (nI 0)) 14 x (nI t)) := (mFr.I (by decide)).tr (mFr.A (by decide))
  refine Alk.ahead (v := nI (g.w.fu0 x)) (w' := wFu g.w x t) (σ' := uI σ 12 7 x (nI t)) (τ' := mA (mI τ 0 (nI 0)) 14 x (nI t)) (ps := [(12, 7)]) (ks := [0, 14]) hR h0 ?_ ?_ (mI_at τ 0 (nI 0)) (wFu_ok hw hx ht hk) rfl (cFr.I (by simp)) (by decide) rfl hfr (by decide) ?_ ?_
  · have x1c : ¬ (nI x < 0 ∨ 12 ≤ x) := fun h => x1 (by rw [jCl (by omega)]; exact h)
    show (if nI x < 0 ∨ 12 ≤ x then none else if nI x < 0 ∨ 12 ≤ x then none else some (Sum.inr (cI σ 12 7 x), (uI σ 12 7 x (nI t)))) = _
    rw [if_neg x1c, if_neg x1c, eC]
  · unfold fm_fuel_54
    rw [n0, right_s]
    show (if nI 0 = nI 0 then (if nI x < 0 ∨ 12 ≤ (nI x).toNatClampNeg then none else if nI x < 0 ∨ 12 ≤ (nI x).toNatClampNeg then none else some ((mI τ 0 (nI 0)).2.2.1 14 (nI x).toNatClampNeg, (mA (mI τ 0 (nI 0)) 14 (nI x).toNatClampNeg (nI t)))) else _) = _
    rw [if_pos rfl, if_neg x1, if_neg x1, jCl (by omega), eM]
  · obtain ⟨c1, c5, c6, c7, c8, c9, c10, c11⟩ := hC
    have I : ∀ k i, ¬ (k = 12 ∧ i = 7) → cI (uI σ 12 7 x (nI t)) k i = cI σ k i := fun k i h => uI_ne _ _ _ h
    refine ⟨c1, c5, c6, c7, by rw [I 12 2 (by decide), I 12 3 (by decide)]; exact c8, by rw [I 12 4 (by decide), I 12 6 (by decide)]; exact c9, fun y hy => ?_, by rw [I 12 8 (by decide), I 12 9 (by decide)]; exact c11⟩
    rw [I 12 5 (by decide), uI_at, wFu_f]
    refine ⟨(c10 y hy).1, ?_⟩
    by_cases z : y = x
    · rw [if_pos z, if_pos z]
    · rw [if_neg z, if_neg z]
      exact (c10 y hy).2
  · obtain ⟨d1, d5, d6, d7, d8, d9, d10⟩ := hM
    refine ⟨d1, d5, d6, d7, d8, fun y hy => ?_, d10⟩
    obtain ⟨y1, y2, y3, y4, y5⟩ := d9 y hy
    refine ⟨y1, y2, y3, y4, ?_⟩
    rw [mA_at, wFu_f]
    by_cases z : y = x
    · rw [if_pos z, if_pos z]
    · rw [if_neg z, if_neg z]
      exact y5
theorem meth_goal (hR : Rel g σ τ) (u v : Int32) : Alk [4, 2] g (fc_X11_goal σ u v) (fm_goal τ u v) := by
  have hw := hR.1.1
  have hC := hR.2.1.1
  have hM := hR.2.2.1
  have hT := hR.2.2.2.2.1
  have bad : ∀ k, 0 < k → k < 1000 → fm_goal_42 τ u v (nI k) = some (0, mI τ 0 (nI k)) := fun k h1 h2 => by
    unfold fm_goal_42
    rw [wrong_s τ (by omega) h1]
    exact if_neg nz1
  unfold fc_X11_goal fm_goal fm_goal_17 fm_goal_37
  rw [fc_needThing_s hw hC, xb_if, fm_isThing_s hw hM, Option.bind_some, bI_if]
  refine Alk.ite (fun qx => ?_) fun _ => Alk.x (c := 4) (j := 0) (v := 0) hR rfl (bad 1 (by omega) (by omega)) rfl
  show Alk [4, 2] g (xb (fc_X11_needRoom σ v) _) (Option.bind (fm_isRoom τ v) _)
  rw [fc_needRoom_s hw hC, xb_if, fm_isRoom_s hw hM, Option.bind_some, bI_if]
  refine Alk.ite (fun qr => ?_) fun _ => Alk.x (c := 4) (j := 0) (v := 0) hR rfl (bad 1 (by omega) (by omega)) rfl
  obtain ⟨⟨h40, h12, hT12, h6⟩, -⟩ := id hw
  obtain ⟨x, rfl, hx⟩ := vIn_ex (by omega) qx
  obtain ⟨r, rfl, hr⟩ := vIn_ex (by omega) qr
  show Alk [4, 2] g (xb (fc_X11_needNoPlay σ) _) (if τ.1 19 = nI 6 then fm_goal_42 τ (nI x) (nI r) 2 else if τ.1 20 = 0 then fm_goal_42 τ (nI x) (nI r) 0 else fm_goal_42 τ (nI x) (nI r) 2)
  rw [fc_needNoPlay_s hR.2.1.2.2.1 hR.1.2.2.1.1.1, xb_ifP, begun_if hT, hM.1.2.2.2, hC.1.2.2.2, n6]
  by_cases hG : g.w.Gl = 6
  · rw [if_pos (show nI g.w.Gl = nI 6 by rw [hG]), if_neg (show ¬ nI g.w.Gl < nI 6 by rw [jLt (by omega) (by omega)]; omega), ite_self]
    exact Alk.x (c := 2) (j := 1) (v := 0) hR rfl (bad 2 (by omega) (by omega)) rfl
  · have x1 : ¬ (nI g.w.Gl < 0 ∨ 6 ≤ (nI g.w.Gl).toNatClampNeg) := fun h => (jIn (show g.w.Gl < 6 by omega) (by omega)).mp h
    rw [if_neg (show ¬ nI g.w.Gl = nI 6 by rw [jEq (by omega) (by omega)]; exact hG), if_pos (show nI g.w.Gl < nI 6 by rw [jLt (by omega) (by omega)]; omega), if_neg x1]
    refine Alk.ite (fun h0 => ?_) fun _ => Alk.x (c := 2) (j := 1) (v := 0) hR rfl (bad 2 (by omega) (by omega)) rfl
    obtain ⟨σ1, hσ⟩ : ∃ σ1, σ1 = uI (uI (uI σ 12 8 g.w.Gl (nI x)) 12 9 g.w.Gl (nI r)) 2 0 16 (nI (g.w.Gl + 1)) := ⟨_, rfl⟩
    obtain ⟨τ1, hτ⟩ : ∃ τ1, τ1 = mI (mA (mA (mI τ 0 (nI 0)) 17 g.w.Gl (nI x)) 18 g.w.Gl (nI r)) 19 (nI (g.w.Gl + 1)) := ⟨_, rfl⟩
    have hfr : mFr [0, 17, 18, 19] τ τ1 := by rw [hτ]; exact (((mFr.I (by decide)).tr (mFr.A (by decide))).tr (mFr.A (by decide))).tr (mFr.I (by decide))
    have e1 : cI (uI σ 12 8 g.w.Gl (nI x)) 2 0 16 = nI g.w.Gl := hC.1.2.2.2
    have e2 : cI (uI (uI σ 12 8 g.w.Gl (nI x)) 12 9 g.w.Gl (nI r)) 2 0 16 = nI g.w.Gl := hC.1.2.2.2
    have eσ : cI σ1 2 0 16 = nI (g.w.Gl + 1) := by rw [hσ, uI_at, if_pos rfl]
    refine Alk.ahead (v := nI (g.w.Gl + 1)) (w' := wGl g.w x r) (σ' := σ1) (τ' := τ1) (ps := [(12, 8), (12, 9), (2, 0)]) (ks := [0, 17, 18, 19]) hR h0 ?_ ?_ (by rw [hτ, mI_ne _ _ (by decide)]; exact mI_at τ 0 (nI 0)) (wGl_ok hw hx hr (by omega)) rfl (by rw [hσ]; exact ((cFr.I (by simp)).tr (cFr.I (by simp))).tr (cFr.I (by simp))) (by decide) (by rw [hσ]; rfl) hfr (by decide) ?_ ?_
    · rw [jCl (by omega), e1, if_neg x1, jCl (by omega), e2, n1, jAdd, ← hσ, eσ]
    · unfold fm_goal_42
      rw [show fm_isWrong τ 0 = fm_isWrong τ (nI 0) from rfl, right_s]
      have e19 : (mI τ 0 (nI 0)).1 19 = nI g.w.Gl := hM.1.2.2.2
      show (if nI 0 = 0 then (if (mI τ 0 (nI 0)).1 19 < 0 ∨ 6 ≤ ((mI τ 0 (nI 0)).1 19).toNatClampNeg then none else if (mI τ 0 (nI 0)).1 19 < 0 ∨ 6 ≤ ((mI τ 0 (nI 0)).1 19).toNatClampNeg then none else some ((mI (mA (mA (mI τ 0 (nI 0)) 17 ((mI τ 0 (nI 0)).1 19).toNatClampNeg (nI x)) 18 ((mI τ 0 (nI 0)).1 19).toNatClampNeg (nI r)) 19 ((mI τ 0 (nI 0)).1 19 + nI 1)).1 19, mI (mA (mA (mI τ 0 (nI 0)) 17 ((mI τ 0 (nI 0)).1 19).toNatClampNeg (nI x)) 18 ((mI τ 0 (nI 0)).1 19).toNatClampNeg (nI r)) 19 ((mI τ 0 (nI 0)).1 19 + nI 1))) else _) = _
      rw [if_pos (show nI 0 = 0 from rfl), e19, if_neg x1, if_neg x1, jCl (by omega), jAdd, mI_at, ← hτ]
    · obtain ⟨⟨c1, c2, c3, c4⟩, c5, c6, c7, c8, c9, c10, c11⟩ := hC
      have I : ∀ a b, ¬ (a = 12 ∧ (b = 8 ∨ b = 9)) → ¬ (a = 2 ∧ b = 0) → cI σ1 a b = cI σ a b := fun a b h1 h2 => by
        rw [hσ, uI_ne _ _ _ h2, uI_ne _ _ _ (fun z => h1 ⟨z.1, Or.inr z.2⟩), uI_ne _ _ _ (fun z => h1 ⟨z.1, Or.inl z.2⟩)]
      have I2 : ∀ f, f ≠ 16 → cI σ1 2 0 f = cI σ 2 0 f := fun f h => by
        rw [hσ, uI_at, if_neg h]; rfl
      have J : cJ σ1 = cJ σ := by rw [hσ]; rfl
      refine ⟨⟨(I2 1 (by decide)).trans c1, (I2 6 (by decide)).trans c2, (I2 13 (by decide)).trans c3, eσ⟩, by rw [J]; exact c5, by rw [I 13 0 (by decide) (by decide)]; exact c6, by rw [J]; exact c7, by rw [I 12 2 (by decide) (by decide), I 12 3 (by decide) (by decide)]; exact c8, by rw [I 12 4 (by decide) (by decide), I 12 6 (by decide) (by decide), I 14 1 (by decide) (by decide)]; exact c9, by rw [I 12 5 (by decide) (by decide), I 12 7 (by decide) (by decide)]; exact c10, fun y hy => ?_⟩
      have hy' : y < g.w.Gl + 1 := hy
      obtain ⟨z1, z2⟩ := wGl_e (w := g.w) (x := x) (r := r) y
      have z8 : cI σ1 12 8 y = if y = g.w.Gl then nI x else cI σ 12 8 y := by rw [hσ, uI_ne _ _ _ (by decide), uI_ne _ _ _ (by decide), uI_at]
      have z9 : cI σ1 12 9 y = if y = g.w.Gl then nI r else cI σ 12 9 y := by rw [hσ, uI_ne _ _ _ (by decide), uI_at]; rfl
      show cI σ1 12 8 y = nI ((wGl g.w x r).gth y) ∧ cI σ1 12 9 y = nI ((wGl g.w x r).grm y)
      rw [z1, z2, z8, z9]
      by_cases z : y = g.w.Gl
      · rw [if_pos z, if_pos z, if_pos z, if_pos z]
        exact ⟨rfl, rfl⟩
      · rw [if_neg z, if_neg z, if_neg z, if_neg z]
        exact c11 y (by omega)
    · obtain ⟨⟨d1, d2, d3, d4⟩, d5, d6, d7, d8, d9, d10⟩ := hM
      have A := fun k (h : k ∉ ([0, 17, 18, 19] : List Nat)) => hfr k h
      refine ⟨⟨by rw [(A 4 (by decide)).1]; exact d1, by rw [(A 9 (by decide)).1]; exact d2, by rw [(A 16 (by decide)).1]; exact d3, by rw [hτ]; exact mI_at _ _ _⟩, by rw [(A 3 (by decide)).2.2.1]; exact d5, by rw [(A 5 (by decide)).2.2.1]; exact d6, by rw [(A 6 (by decide)).2.2.2, (A 15 (by decide)).2.2.2]; exact d7, by rw [(A 7 (by decide)).2.2.1, (A 8 (by decide)).2.2.1]; exact d8, by rw [(A 10 (by decide)).2.2.1, (A 11 (by decide)).2.2.1, (A 12 (by decide)).2.2.1, (A 13 (by decide)).2.2.1, (A 14 (by decide)).2.2.1]; exact d9, fun y hy => ?_⟩
      have hy' : y < g.w.Gl + 1 := hy
      obtain ⟨z1, z2⟩ := wGl_e (w := g.w) (x := x) (r := r) y
      have z8 : τ1.2.2.1 17 y = if y = g.w.Gl then nI x else τ.2.2.1 17 y := by
        rw [hτ]
        show (mA (mA (mI τ 0 (nI 0)) 17 g.w.Gl (nI x)) 18 g.w.Gl (nI r)).2.2.1 17 y = _
        rw [mA_ne _ _ _ (by decide), mA_at]; rfl
      have z9 : τ1.2.2.1 18 y = if y = g.w.Gl then nI r else τ.2.2.1 18 y := by
        rw [hτ]
        show (mA (mA (mI τ 0 (nI 0)) 17 g.w.Gl (nI x)) 18 g.w.Gl (nI r)).2.2.1 18 y = _
        rw [mA_at]; rfl
      show τ1.2.2.1 17 y = nI ((wGl g.w x r).gth y) ∧ τ1.2.2.1 18 y = nI ((wGl g.w x r).grm y)
      rw [z1, z2, z8, z9]
      by_cases z : y = g.w.Gl
      · rw [if_pos z, if_pos z, if_pos z, if_pos z]
        exact ⟨rfl, rfl⟩
      · rw [if_neg z, if_neg z, if_neg z, if_neg z]
        exact d10 y (by omega)
end G20
