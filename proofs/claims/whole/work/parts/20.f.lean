/-! Told ahead of play: thing. -/
/-- a further thing -/
def wThg (w : Wd) (n r v k f : Nat) : Wd := ((fun a => if a = 2 then w.T + 1 else w.1 a), w.2.1, w.2.2.1, w.2.2.2.1, w.2.2.2.2.1, fun a j => if j = w.T then (if a = 0 then n else if a = 1 then r else if a = 2 then v else if a = 3 then k else if a = 4 then f else w.2.2.2.2.2 a j) else w.2.2.2.2.2 a j)
section F20
variable {g : Gm} {σ σ1 : cS} {τ τ1 : mS} {w : Wd} {n r v k f : Nat}
theorem wThg_e (j : Nat) : (wThg w n r v k f).noun j = (if j = w.T then n else w.noun j) ∧ (wThg w n r v k f).lies j = (if j = w.T then r else w.lies j) ∧ (wThg w n r v k f).wei j = (if j = w.T then v else w.wei j) ∧ (wThg w n r v k f).kind j = (if j = w.T then k else w.kind j) ∧ (wThg w n r v k f).fu0 j = (if j = w.T then f else w.fu0 j) := ⟨rfl, rfl, rfl, rfl, rfl⟩
theorem wThg_g (j : Nat) : (wThg w n r v k f).gth j = w.gth j ∧ (wThg w n r v k f).grm j = w.grm j := by
  refine ⟨?_, ?_⟩
  · show (if j = w.T then w.2.2.2.2.2 5 j else w.2.2.2.2.2 5 j) = _
    rw [ite_self]; rfl
  · show (if j = w.T then w.2.2.2.2.2 6 j else w.2.2.2.2.2 6 j) = _
    rw [ite_self]; rfl
theorem wThg_ok (hw : Wd.ok w) (hT : w.T < 12) (hn : n < w.W) (hr : r < w.R) (hv : 1 ≤ v ∧ v ≤ 9) (hk : k = 112 ∨ k = 108 ∨ k = 98) (hf : f = if k = 108 then 10 else 0) (hno : sThing w n = none) : Wd.ok (wThg w n r v k f) := by
  obtain ⟨⟨a1, a2, a3, a4⟩, hb, c, d, e, fo, hh, i, j, kk, m, nn⟩ := hw
  have eT : (wThg w n r v k f).T = w.T + 1 := rfl
  have hne : ∀ x, x < w.T → w.noun x ≠ n := by
    intro x hx he
    have := List.find?_eq_none.mp hno x (by rw [List.mem_range'_1]; omega)
    exact this (decide_eq_true he)
  refine ⟨⟨a1, a2, by omega, a4⟩, hb, c, d, fun y q hy => ?_, fun x hx => ?_, fun x y hx hy he => ?_, fun x hx => ?_, j, fun y hy => ?_, m, nn⟩
  · obtain ⟨x1, x2⟩ := e y q hy
    exact ⟨by omega, x2⟩
  · obtain ⟨e1, e2, e3, e4, e5⟩ := wThg_e (w := w) (n := n) (r := r) (v := v) (k := k) (f := f) x
    rw [e1, e2, e3, e4, e5]
    by_cases z : x = w.T
    · rw [if_pos z, if_pos z, if_pos z, if_pos z, if_pos z]
      refine ⟨hn, hr, hv.1, hv.2, hk, ?_, fun h => ?_⟩
      · rw [hf]; split <;> omega
      · rw [hf, if_neg h]
    · rw [if_neg z, if_neg z, if_neg z, if_neg z, if_neg z]
      exact fo x (by omega)
  · obtain ⟨e1, -⟩ := wThg_e (w := w) (n := n) (r := r) (v := v) (k := k) (f := f) x
    obtain ⟨e2, -⟩ := wThg_e (w := w) (n := n) (r := r) (v := v) (k := k) (f := f) y
    rw [e1, e2] at he
    by_cases z : x = w.T
    · by_cases z2 : y = w.T
      · omega
      · rw [if_pos z, if_neg z2] at he
        exact absurd he.symm (hne y (by omega))
    · by_cases z2 : y = w.T
      · rw [if_neg z, if_pos z2] at he
        exact absurd he (hne x (by omega))
      · rw [if_neg z, if_neg z2] at he
        exact hh x y (by omega) (by omega) he
  · obtain ⟨e1, e2, e3, e4, e5⟩ := wThg_e (w := w) (n := n) (r := r) (v := v) (k := k) (f := f) x
    rw [eT] at hx
    rw [e2, e5, if_neg (by omega), if_neg (by omega)]
    exact i x (by omega)
  · obtain ⟨e1, e2⟩ := wThg_g (w := w) (n := n) (r := r) (v := v) (k := k) (f := f) y
    rw [e1, e2]
    obtain ⟨x1, x2⟩ := kk y hy
    exact ⟨by omega, x2⟩
theorem CWd.thg (hC : CWd σ w) (h2 : ∀ j, cI σ1 2 0 j = if j = 13 then nI (w.T + 1) else cI σ 2 0 j) (g4 : ∀ j, cI σ1 12 4 j = if j = w.T then nI n else cI σ 12 4 j) (g5 : ∀ j, cI σ1 12 5 j = if j = w.T then nI r else cI σ 12 5 j) (g6 : ∀ j, cI σ1 12 6 j = if j = w.T then nI v else cI σ 12 6 j) (gk : ∀ j, cI σ1 14 1 j = if j = w.T then nI k else cI σ 14 1 j) (g7 : ∀ j, cI σ1 12 7 j = if j = w.T then nI f else cI σ 12 7 j) (hI : ∀ a b, (a = 13 ∧ b = 0) ∨ (a = 12 ∧ (b = 2 ∨ b = 3 ∨ b = 8 ∨ b = 9)) → cI σ1 a b = cI σ a b) (hJ : cJ σ1 = cJ σ) : CWd σ1 (wThg w n r v k f) := by
  obtain ⟨⟨c1, c2, c3, c4⟩, c5, c6, c7, c8, c9, c10, c11⟩ := hC
  have eT : (wThg w n r v k f).T = w.T + 1 := rfl
  refine ⟨⟨by rw [h2]; exact c1, by rw [h2]; exact c2, by rw [h2]; rfl, by rw [h2]; exact c4⟩, by rw [hJ]; exact c5, by rw [hI 13 0 (by omega)]; exact c6, by rw [hJ]; exact c7, by rw [hI 12 2 (by omega), hI 12 3 (by omega)]; exact c8, fun x hx => ?_, fun x hx => ?_, fun y hy => ?_⟩
  · obtain ⟨e1, e2, e3, e4, e5⟩ := wThg_e (w := w) (n := n) (r := r) (v := v) (k := k) (f := f) x
    rw [eT] at hx
    rw [g4, g6, gk, e1, e3, e4]
    by_cases z : x = w.T
    · rw [if_pos z, if_pos z, if_pos z, if_pos z, if_pos z, if_pos z]
      exact ⟨rfl, rfl, rfl⟩
    · rw [if_neg z, if_neg z, if_neg z, if_neg z, if_neg z, if_neg z]
      exact c9 x (by omega)
  · obtain ⟨e1, e2, e3, e4, e5⟩ := wThg_e (w := w) (n := n) (r := r) (v := v) (k := k) (f := f) x
    rw [g5, g7, e2, e5]
    by_cases z : x = w.T
    · rw [if_pos z, if_pos z, if_pos z, if_pos z]
      exact ⟨rfl, rfl⟩
    · rw [if_neg z, if_neg z, if_neg z, if_neg z]
      exact c10 x hx
  · obtain ⟨e1, e2⟩ := wThg_g (w := w) (n := n) (r := r) (v := v) (k := k) (f := f) y
    rw [hI 12 8 (by omega), hI 12 9 (by omega), e1, e2]
    exact c11 y hy
theorem MWd.thg (hM : MWd τ w) (h16 : τ1.1 16 = nI (w.T + 1)) (g4 : ∀ j, τ1.2.2.1 10 j = if j = w.T then nI n else τ.2.2.1 10 j) (g5 : ∀ j, τ1.2.2.1 11 j = if j = w.T then nI r else τ.2.2.1 11 j) (g6 : ∀ j, τ1.2.2.1 12 j = if j = w.T then nI v else τ.2.2.1 12 j) (gk : ∀ j, τ1.2.2.1 13 j = if j = w.T then nI k else τ.2.2.1 13 j) (g7 : ∀ j, τ1.2.2.1 14 j = if j = w.T then nI f else τ.2.2.1 14 j) (hf : mFr [0, 10, 11, 12, 13, 14, 16] τ τ1) : MWd τ1 (wThg w n r v k f) := by
  obtain ⟨⟨d1, d2, d3, d4⟩, d5, d6, d7, d8, d9, d10⟩ := hM
  have A := fun k (h : k ∉ ([0, 10, 11, 12, 13, 14, 16] : List Nat)) => hf k h
  have eT : (wThg w n r v k f).T = w.T + 1 := rfl
  refine ⟨⟨by rw [(A 4 (by decide)).1]; exact d1, by rw [(A 9 (by decide)).1]; exact d2, h16, by rw [(A 19 (by decide)).1]; exact d4⟩, by rw [(A 3 (by decide)).2.2.1]; exact d5, by rw [(A 5 (by decide)).2.2.1]; exact d6, by rw [(A 6 (by decide)).2.2.2, (A 15 (by decide)).2.2.2]; exact d7, by rw [(A 7 (by decide)).2.2.1, (A 8 (by decide)).2.2.1]; exact d8, fun x hx => ?_, fun y hy => ?_⟩
  · obtain ⟨e1, e2, e3, e4, e5⟩ := wThg_e (w := w) (n := n) (r := r) (v := v) (k := k) (f := f) x
    rw [eT] at hx
    rw [g4, g5, g6, gk, g7, e1, e2, e3, e4, e5]
    by_cases z : x = w.T
    · rw [if_pos z, if_pos z, if_pos z, if_pos z, if_pos z, if_pos z, if_pos z, if_pos z, if_pos z, if_pos z]
      exact ⟨rfl, rfl, rfl, rfl, rfl⟩
    · rw [if_neg z, if_neg z, if_neg z, if_neg z, if_neg z, if_neg z, if_neg z, if_neg z, if_neg z, if_neg z]
      exact d9 x (by omega)
  · obtain ⟨e1, e2⟩ := wThg_g (w := w) (n := n) (r := r) (v := v) (k := k) (f := f) y
    rw [(A 17 (by decide)).2.2.1, (A 18 (by decide)).2.2.1, e1, e2]
    exact d10 y hy
theorem kd_if {α : Type} {c : Nat} (hc : c < 65536) (X Y : α) : (if nI c = nI 112 then X else if nI c = nI 108 then X else if nI c = nI 98 then X else Y) = if c = 112 ∨ c = 108 ∨ c = 98 then X else Y := by
  have e1 : (nI c = nI 112) = (c = 112) := propext (jEq (by omega) (by omega))
  have e2 : (nI c = nI 108) = (c = 108) := propext (jEq (by omega) (by omega))
  have e3 : (nI c = nI 98) = (c = 98) := propext (jEq (by omega) (by omega))
  by_cases z1 : c = 112
  · rw [if_pos (e1.mpr z1), if_pos (Or.inl z1)]
  · rw [if_neg (fun h => z1 (e1.mp h))]
    by_cases z2 : c = 108
    · rw [if_pos (e2.mpr z2), if_pos (Or.inr (Or.inl z2))]
    · rw [if_neg (fun h => z2 (e2.mp h))]
      by_cases z3 : c = 98
      · rw [if_pos (e3.mpr z3), if_pos (Or.inr (Or.inr z3))]
      · rw [if_neg (fun h => z3 (e3.mp h)), if_neg (by omega)]
theorem meth_thing (hR : Rel g σ τ) (x y u : Int32) {c : Nat} (hc : c < 65536) : Alk [4, 1, 3, 2] g (fc_X11_thing σ x y u (nI c)) (fm_thing τ x y u (nI c)) := by
  have hw := hR.1.1
  have hC := hR.2.1.1
  have hM := hR.2.2.1
  have hT := hR.2.2.2.2.1
  have bad : ∀ k, 0 < k → k < 1000 → fm_thing_57 τ x y u (nI c) (nI k) = some (0, mI τ 0 (nI k)) := fun k h1 h2 => by
    unfold fm_thing_57
    rw [wrong_s τ (by omega) h1]
    exact if_neg nz1
  have bad2 : ∀ k, 0 < k → k < 1000 → fm_thing_100 (mI τ 0 (nI 0)) x y u (nI c) (nI k) = some (0, mI τ 0 (nI k)) := fun k h1 h2 => by
    unfold fm_thing_100
    rw [wrong_s _ (by omega) h1, mI_twice]
    exact if_neg nz1
  unfold fc_X11_thing fm_thing fm_thing_17
  rw [fc_needWord_s hw hC, xb_if, fm_isWord_s hw hM, Option.bind_some, bI_if]
  refine Alk.ite (fun qn => ?_) fun _ => Alk.x (c := 4) (j := 0) (v := 0) hR rfl (bad 1 (by omega) (by omega)) rfl
  show Alk [4, 1, 3, 2] g (xb (fc_X11_needRoom σ y) _) (Option.bind (fm_isRoom τ y) _)
  rw [fc_needRoom_s hw hC, xb_if, fm_isRoom_s hw hM, Option.bind_some, bI_if]
  refine Alk.ite (fun qr => ?_) fun _ => Alk.x (c := 4) (j := 0) (v := 0) hR rfl (bad 1 (by omega) (by omega)) rfl
  show Alk [4, 1, 3, 2] g (if u < nI 1 then fc_X11_thing_21 σ else if u ≤ nI 9 then (if nI c = nI 112 then fc_X11_thing_62 σ x y u (nI c) else if nI c = nI 108 then fc_X11_thing_62 σ x y u (nI c) else if nI c = nI 98 then fc_X11_thing_62 σ x y u (nI c) else some (.inl 1, σ)) else fc_X11_thing_21 σ) (Option.bind (fm_isBetween u (nI 1) (nI 9)) fun r_3 => if r_3 = 0 then fm_thing_57 τ x y u (nI c) (nI 2) else if nI c = nI 112 then fm_thing_57 τ x y u (nI c) (nI 0) else if nI c = nI 108 then fm_thing_57 τ x y u (nI c) (nI 0) else if nI c = nI 98 then fm_thing_57 τ x y u (nI c) (nI 0) else fm_thing_57 τ x y u (nI c) (nI 2))
  rw [bt_c u (by omega) (by omega), fm_betw_v u (by omega) (by omega), Option.bind_some, bI_if, kd_if hc, kd_if hc]
  refine Alk.ite (fun qv => ?_) fun _ => Alk.x (c := 1) (j := 1) (v := 0) hR rfl (bad 2 (by omega) (by omega)) rfl
  refine Alk.ite (fun qk => ?_) fun _ => Alk.x (c := 1) (j := 1) (v := 0) hR rfl (bad 2 (by omega) (by omega)) rfl
  obtain ⟨⟨h40, h12, hT12, -⟩, -⟩ := id hw
  obtain ⟨n, rfl, hn⟩ := vIn_ex (by omega) qn
  obtain ⟨r, rfl, hr⟩ := vIn_ex (by omega) qr
  obtain ⟨v, hv, rfl⟩ : ∃ v, (1 ≤ v ∧ v ≤ 9) ∧ u = nI v := by
    obtain ⟨e1, e2, e3⟩ := vBt_of (by omega) qv
    exact ⟨_, ⟨e2, e3⟩, e1⟩
  have hMt : MWd (mI τ 0 (nI 0)) g.w := hM.fr (ks := [0]) (mFr.I (by decide)) (by decide)
  have e57 : ∀ o, sThing g.w n = o → fm_thing_57 τ (nI n) (nI r) (nI v) (nI c) (nI 0) = if oI o = (-1 : Int32) then (if τ.1 16 = (12 : Int32) then fm_thing_100 (mI τ 0 (nI 0)) (nI n) (nI r) (nI v) (nI c) 4 else if τ.1 20 = 0 then fm_thing_100 (mI τ 0 (nI 0)) (nI n) (nI r) (nI v) (nI c) 0 else fm_thing_100 (mI τ 0 (nI 0)) (nI n) (nI r) (nI v) (nI c) 4) else fm_thing_100 (mI τ 0 (nI 0)) (nI n) (nI r) (nI v) (nI c) 3 := fun o ho => by
    unfold fm_thing_57 fm_thing_95
    rw [right_s]
    show (if nI 0 = 0 then (fm_thingOf (mI τ 0 (nI 0)) (nI n)).bind _ else _) = _
    rw [if_pos (show nI 0 = 0 from rfl), fm_thingOf_s hw hMt (by omega), Option.bind_some, ho]
    rfl
  have e62 : ∀ o, sThing g.w n = o → fc_X11_thing_62 σ (nI n) (nI r) (nI v) (nI c) = if oI o = (-1 : Int32) then xb (fc_X11_needNoPlay σ) (fun (_ : Unit) u_2 =>
      if (cI u_2 2 0 13) < (12 : Int32) then
        if (cI u_2 2 0 13) < 0 ∨ 12 ≤ (cI u_2 2 0 13).toNatClampNeg then none else
        if (cI u_2 2 0 13) < 0 ∨ 12 ≤ (cI u_2 2 0 13).toNatClampNeg then none else
        if (cI u_2 2 0 13) < 0 ∨ 12 ≤ (cI u_2 2 0 13).toNatClampNeg then none else
        if (cI u_2 2 0 13) < 0 ∨ 12 ≤ (cI u_2 2 0 13).toNatClampNeg then none else
        if nI c = (108 : Int32) then
          fc_X11_thing_186 (uI (uI (uI (uI u_2 12 4 (cI u_2 2 0 13).toNatClampNeg (nI n)) 12 5 (cI u_2 2 0 13).toNatClampNeg (nI r)) 12 6 (cI u_2 2 0 13).toNatClampNeg (nI v)) 14 1 (cI u_2 2 0 13).toNatClampNeg (nI c).toUInt32.toUInt16.toUInt32.toInt32) (cI u_2 2 0 13) (10 : Int32) (cI u_2 2 0 13)
        else
          fc_X11_thing_186 (uI (uI (uI (uI u_2 12 4 (cI u_2 2 0 13).toNatClampNeg (nI n)) 12 5 (cI u_2 2 0 13).toNatClampNeg (nI r)) 12 6 (cI u_2 2 0 13).toNatClampNeg (nI v)) 14 1 (cI u_2 2 0 13).toNatClampNeg (nI c).toUInt32.toUInt16.toUInt32.toInt32) (cI u_2 2 0 13) (0 : Int32) (cI u_2 2 0 13)
      else some (.inl 2, u_2)) else some (.inl 3, σ) := fun o ho => by
    unfold fc_X11_thing_62
    rw [fc_thingOf_s hw hC (by omega), Option.bind_some, ho]
  cases ho : sThing g.w n with
  | some z =>
    have hz := (sThing_lt ho).1
    have nz : ¬ oI (some z) = (-1 : Int32) := fun h => (jM1 (a := z) (by omega)).mp h
    rw [e57 _ ho, e62 _ ho, if_neg nz, if_neg nz]
    exact Alk.x (c := 3) (j := 2) (v := 0) hR rfl (bad2 3 (by omega) (by omega)) rfl
  | none =>
    rw [e57 _ ho, e62 _ ho, if_pos (show oI none = (-1 : Int32) from rfl), if_pos (show oI none = (-1 : Int32) from rfl), fc_needNoPlay_s hR.2.1.2.2.1 hR.1.2.2.1.1.1, xb_ifP, begun_if hT, hM.1.2.2.1, hC.1.2.2.1, n12]
    by_cases hT2 : g.w.T = 12
    · rw [if_pos (show nI g.w.T = nI 12 by rw [hT2]), if_neg (show ¬ nI g.w.T < nI 12 by rw [jLt (by omega) (by omega)]; omega), ite_self]
      exact Alk.x (c := 2) (j := 3) (v := 0) hR rfl (bad2 4 (by omega) (by omega)) rfl
    · have x1 : ¬ (nI g.w.T < 0 ∨ 12 ≤ (nI g.w.T).toNatClampNeg) := fun h => (jIn (show g.w.T < 12 by omega) (by omega)).mp h
      rw [if_neg (show ¬ nI g.w.T = nI 12 by rw [jEq (by omega) (by omega)]; exact hT2), if_pos (show nI g.w.T < nI 12 by rw [jLt (by omega) (by omega)]; omega), if_neg x1, if_neg x1, if_neg x1, if_neg x1, jCl (by omega), ch128 c (by omega)]
      refine Alk.ite (fun h0 => ?_) fun _ => Alk.x (c := 2) (j := 3) (v := 0) hR rfl (bad2 4 (by omega) (by omega)) rfl
      obtain ⟨f, hf⟩ : ∃ f, f = if c = 108 then 10 else 0 := ⟨_, rfl⟩
      have fin : ∀ s0, s0 = nI f → Alk [4, 1, 3, 2] g (fc_X11_thing_186 (uI (uI (uI (uI σ 12 4 g.w.T (nI n)) 12 5 g.w.T (nI r)) 12 6 g.w.T (nI v)) 14 1 g.w.T (nI c)) (nI g.w.T) s0 (nI g.w.T)) (fm_thing_170 (mA (mA (mA (mA (mI τ 0 (nI 0)) 10 g.w.T (nI n)) 11 g.w.T (nI r)) 12 g.w.T (nI v)) 13 g.w.T (nI c)) s0 (nI g.w.T)) := by
        intro s0 hs0
        obtain ⟨σ1, hσ⟩ : ∃ σ1, σ1 = uI (uI (uI (uI (uI (uI σ 12 4 g.w.T (nI n)) 12 5 g.w.T (nI r)) 12 6 g.w.T (nI v)) 14 1 g.w.T (nI c)) 12 7 g.w.T (nI f)) 2 0 13 (nI (g.w.T + 1)) := ⟨_, rfl⟩
        obtain ⟨τ1, hτ⟩ : ∃ τ1, τ1 = mI (mA (mA (mA (mA (mA (mI τ 0 (nI 0)) 10 g.w.T (nI n)) 11 g.w.T (nI r)) 12 g.w.T (nI v)) 13 g.w.T (nI c)) 14 g.w.T (nI f)) 16 (nI (g.w.T + 1)) := ⟨_, rfl⟩
        have hfr : mFr [0, 10, 11, 12, 13, 14, 16] τ τ1 := by
          rw [hτ]
          exact ((((((mFr.I (by decide)).tr (mFr.A (by decide))).tr (mFr.A (by decide))).tr (mFr.A (by decide))).tr (mFr.A (by decide))).tr (mFr.A (by decide))).tr (mFr.I (by decide))
        refine Alk.ahead (v := nI g.w.T) (w' := wThg g.w n r v c f) (σ' := σ1) (τ' := τ1) (ps := [(12, 4), (12, 5), (12, 6), (14, 1), (12, 7), (2, 0)]) (ks := [0, 10, 11, 12, 13, 14, 16]) hR h0 ?_ ?_ (by rw [hτ, mI_ne _ _ (by decide)]; exact mI_at τ 0 (nI 0)) (wThg_ok hw (by omega) hn hr hv qk hf ho) rfl (by rw [hσ]; exact (((((cFr.I (by simp)).tr (cFr.I (by simp))).tr (cFr.I (by simp))).tr (cFr.I (by simp))).tr (cFr.I (by simp))).tr (cFr.I (by simp))) (by decide) (by rw [hσ]; rfl) hfr (by decide) (CWd.thg hC (fun j => ?_) (fun j => ?_) (fun j => ?_) (fun j => ?_) (fun j => ?_) (fun j => ?_) (fun a b h => ?_) (by rw [hσ]; rfl)) (MWd.thg hM (by rw [hτ]; exact mI_at _ _ _) (fun j => ?_) (fun j => ?_) (fun j => ?_) (fun j => ?_) (fun j => ?_) hfr)
        · unfold fc_X11_thing_186
          rw [if_neg x1, jCl (by omega), hs0]
          have e13 : cI (uI (uI (uI (uI (uI σ 12 4 g.w.T (nI n)) 12 5 g.w.T (nI r)) 12 6 g.w.T (nI v)) 14 1 g.w.T (nI c)) 12 7 g.w.T (nI f)) 2 0 13 = nI g.w.T := hC.1.2.2.1
          rw [e13, n1, jAdd, ← hσ]
        · unfold fm_thing_170
          rw [if_neg x1, jCl (by omega), hs0, mI_at]
          have e16 : (mA (mA (mA (mA (mA (mI τ 0 (nI 0)) 10 g.w.T (nI n)) 11 g.w.T (nI r)) 12 g.w.T (nI v)) 13 g.w.T (nI c)) 14 g.w.T (nI f)).1 16 = nI g.w.T := hM.1.2.2.1
          rw [e16, n1, jAdd, ← hτ, jSub (by omega), show g.w.T + 1 - 1 = g.w.T by omega]
        · rw [hσ, uI_at]; rfl
        · rw [hσ, uI_ne _ _ _ (by decide), uI_ne _ _ _ (by decide), uI_ne _ _ _ (by decide), uI_ne _ _ _ (by decide), uI_ne _ _ _ (by decide), uI_at]
        · rw [hσ, uI_ne _ _ _ (by decide), uI_ne _ _ _ (by decide), uI_ne _ _ _ (by decide), uI_ne _ _ _ (by decide), uI_at]; rfl
        · rw [hσ, uI_ne _ _ _ (by decide), uI_ne _ _ _ (by decide), uI_ne _ _ _ (by decide), uI_at]; rfl
        · rw [hσ, uI_ne _ _ _ (by decide), uI_ne _ _ _ (by decide), uI_at]; rfl
        · rw [hσ, uI_ne _ _ _ (by decide), uI_at]; rfl
        · have nn : ∀ k i, (k = 12 ∧ (i = 4 ∨ i = 5 ∨ i = 6 ∨ i = 7)) ∨ (k = 14 ∧ i = 1) ∨ (k = 2 ∧ i = 0) → ¬ (a = k ∧ b = i) := fun k i h1 h2 => by omega
          rw [hσ, uI_ne _ _ _ (nn 2 0 (by omega)), uI_ne _ _ _ (nn 12 7 (by omega)), uI_ne _ _ _ (nn 14 1 (by omega)), uI_ne _ _ _ (nn 12 6 (by omega)), uI_ne _ _ _ (nn 12 5 (by omega)), uI_ne _ _ _ (nn 12 4 (by omega))]
        · rw [hτ]
          show (mA (mA (mA (mA (mA (mI τ 0 (nI 0)) 10 g.w.T (nI n)) 11 g.w.T (nI r)) 12 g.w.T (nI v)) 13 g.w.T (nI c)) 14 g.w.T (nI f)).2.2.1 10 j = _
          rw [mA_ne _ _ _ (by decide), mA_ne _ _ _ (by decide), mA_ne _ _ _ (by decide), mA_ne _ _ _ (by decide), mA_at]; rfl
        · rw [hτ]
          show (mA (mA (mA (mA (mA (mI τ 0 (nI 0)) 10 g.w.T (nI n)) 11 g.w.T (nI r)) 12 g.w.T (nI v)) 13 g.w.T (nI c)) 14 g.w.T (nI f)).2.2.1 11 j = _
          rw [mA_ne _ _ _ (by decide), mA_ne _ _ _ (by decide), mA_ne _ _ _ (by decide), mA_at]; rfl
        · rw [hτ]
          show (mA (mA (mA (mA (mA (mI τ 0 (nI 0)) 10 g.w.T (nI n)) 11 g.w.T (nI r)) 12 g.w.T (nI v)) 13 g.w.T (nI c)) 14 g.w.T (nI f)).2.2.1 12 j = _
          rw [mA_ne _ _ _ (by decide), mA_ne _ _ _ (by decide), mA_at]; rfl
        · rw [hτ]
          show (mA (mA (mA (mA (mA (mI τ 0 (nI 0)) 10 g.w.T (nI n)) 11 g.w.T (nI r)) 12 g.w.T (nI v)) 13 g.w.T (nI c)) 14 g.w.T (nI f)).2.2.1 13 j = _
          rw [mA_ne _ _ _ (by decide), mA_at]; rfl
        · rw [hτ]
          show (mA (mA (mA (mA (mA (mI τ 0 (nI 0)) 10 g.w.T (nI n)) 11 g.w.T (nI r)) 12 g.w.T (nI v)) 13 g.w.T (nI c)) 14 g.w.T (nI f)).2.2.1 14 j = _
          rw [mA_at]; rfl
      have e100 : fm_thing_100 (mI τ 0 (nI 0)) (nI n) (nI r) (nI v) (nI c) 0 = if nI c = (108 : Int32) then fm_thing_170 (mA (mA (mA (mA (mI τ 0 (nI 0)) 10 g.w.T (nI n)) 11 g.w.T (nI r)) 12 g.w.T (nI v)) 13 g.w.T (nI c)) (10 : Int32) (nI g.w.T) else fm_thing_170 (mA (mA (mA (mA (mI τ 0 (nI 0)) 10 g.w.T (nI n)) 11 g.w.T (nI r)) 12 g.w.T (nI v)) 13 g.w.T (nI c)) (0 : Int32) (nI g.w.T) := by
        unfold fm_thing_100
        rw [show fm_isWrong (mI τ 0 (nI 0)) 0 = fm_isWrong (mI τ 0 (nI 0)) (nI 0) from rfl, right_s, mI_twice]
        obtain ⟨K, hK⟩ : ∃ K, K = (mI τ 0 (nI 0)).1 16 := ⟨_, rfl⟩
        have hK2 : K = nI g.w.T := by rw [hK]; exact hM.1.2.2.1
        show (if nI 0 = 0 then (if (mI τ 0 (nI 0)).1 16 < 0 ∨ 12 ≤ ((mI τ 0 (nI 0)).1 16).toNatClampNeg then none else if (mI τ 0 (nI 0)).1 16 < 0 ∨ 12 ≤ ((mI τ 0 (nI 0)).1 16).toNatClampNeg then none else if (mI τ 0 (nI 0)).1 16 < 0 ∨ 12 ≤ ((mI τ 0 (nI 0)).1 16).toNatClampNeg then none else if (mI τ 0 (nI 0)).1 16 < 0 ∨ 12 ≤ ((mI τ 0 (nI 0)).1 16).toNatClampNeg then none else
          if nI c = (108 : Int32) then fm_thing_170 (mA (mA (mA (mA (mI τ 0 (nI 0)) 10 ((mI τ 0 (nI 0)).1 16).toNatClampNeg (nI n)) 11 ((mI τ 0 (nI 0)).1 16).toNatClampNeg (nI r)) 12 ((mI τ 0 (nI 0)).1 16).toNatClampNeg (nI v)) 13 ((mI τ 0 (nI 0)).1 16).toNatClampNeg (nI c).toUInt32.toUInt16.toUInt32.toInt32) (10 : Int32) ((mI τ 0 (nI 0)).1 16) else fm_thing_170 (mA (mA (mA (mA (mI τ 0 (nI 0)) 10 ((mI τ 0 (nI 0)).1 16).toNatClampNeg (nI n)) 11 ((mI τ 0 (nI 0)).1 16).toNatClampNeg (nI r)) 12 ((mI τ 0 (nI 0)).1 16).toNatClampNeg (nI v)) 13 ((mI τ 0 (nI 0)).1 16).toNatClampNeg (nI c).toUInt32.toUInt16.toUInt32.toInt32) (0 : Int32) ((mI τ 0 (nI 0)).1 16)) else _) = _
        rw [← hK, hK2, if_pos (show nI 0 = 0 from rfl), if_neg x1, if_neg x1, if_neg x1, if_neg x1, jCl (by omega), ch128 c (by omega)]
      rw [e100]
      refine Alk.ite (fun h => fin _ ?_) (fun h => fin _ ?_)
      · have : c = 108 := (jEq (b := 108) (by omega) (by omega)).mp h
        rw [hf, if_pos this]; rfl
      · have : ¬ c = 108 := fun z => h (by rw [z]; rfl)
        rw [hf, if_neg this]; rfl
end F20
