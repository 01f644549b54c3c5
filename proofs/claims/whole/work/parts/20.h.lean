/-! The hints told: hint, teach; whether one was sold. -/
theorem iN0 {k N : Nat} (h : k < N) (hN : N < 100000) : ¬ (nI k < 0 ∨ N ≤ (nI k).toNatClampNeg) := fun z => (jIn h hN).mp z
theorem iN1 {k N : Nat} (h : k < N) (hN : N < 100000) : ¬ (nI k < 0 ∨ N ≤ k) := fun z => (jIn h hN).mp (by rw [jCl (by omega)]; exact z)
theorem paid_cg {p p' : Sp} (h : p'.sc = p.sc) : ∀ n, Sp.paid p' n = Sp.paid p n := by
  intro n
  induction n with
  | zero => rfl
  | succ n ih =>
    show Sp.paid p' n + p'.sc n = Sp.paid p n + p.sc n
    rw [ih, h]
def pHint (p : Sp) (b : Int32) : Sp := ((p.H + 1, p.S), p.2.1, (fun h => if h = p.H then b else p.ba h), p.2.2.2)
def pTe (p : Sp) (h : Nat) (s : Int64) : Sp := (p.1, p.2.1, p.2.2.1, (fun j => if j = h then s else p.te j), p.2.2.2.2)
theorem pTe_e (p : Sp) (h : Nat) (s : Int64) (j : Nat) : (pTe p h s).te j = if j = h then s else p.te j := rfl
theorem sumR_pt {f f' : Nat → Nat} {k : Nat} (hk : f' k = f k + 1) : ∀ (d x : Nat), x ≤ k → k < x + d → (∀ y, y ≠ k → f' y = f y) → sumR x d f' = sumR x d f + 1 := by
  intro d
  induction d with
  | zero => intro x h1 h2 _; omega
  | succ d ih =>
    intro x h1 h2 h3
    rw [sumR_s, sumR_s]
    by_cases q : x = k
    · rw [q, hk, sumR_congr (f := f') (g := f) d (k + 1) (fun y hy _ => h3 y (by omega))]
      omega
    · rw [h3 x q, ih (x + 1) (by omega) (by omega) h3]
      omega
theorem sBits_add {s : Int64} {k : Nat} (hk : k < 40) (h : sHas s k = false) : sBits (s ||| wbit k) = sBits s + 1 := by
  unfold sBits
  refine sumR_pt (k := k) ?_ 40 0 (by omega) (by omega) (fun y hy => ?_)
  · rw [sHas_or, sHas_wbit (by omega), h, decide_eq_true (rfl : k = k)]; rfl
  · rw [sHas_or, sHas_wbit (by omega), decide_eq_false (fun z => hy z.symm), Bool.or_false]
section H20
variable {g : Gm} {σ σ1 : cS} {τ τ1 : mS} {w : Wd} {t : Tr} {p : Sp}
theorem fm_isHint_s (hp : Sp.ok w t p) (hM : MSp τ p) (v : Int32) : fm_isHint τ v = some (bI (vIn v p.H), τ) := by
  unfold fm_isHint
  have := hp.1.1
  rw [hM.1.1, fm_isBetween_s (by omega), Option.bind_some]
  exact if_pos (bI_z _)
theorem fc_hasHint_v (hp : Sp.ok w t p) (hC : CSp σ p) (v : Int32) : fc_X5_hasHint σ v = some (bI (vIn v p.H), σ) := by
  unfold fc_X5_hasHint fc_X5_hasHint_16
  have := hp.1.1
  rw [hC.1.1]
  show (if v < 0 then (fun z => fc_X5_hasHint_17 σ z) (nI 0) else if nI p.H ≤ v then (fun z => fc_X5_hasHint_17 σ z) (nI 0) else (fun z => fc_X5_hasHint_17 σ z) (nI 1)) = _
  rw [v_in (by omega)]
  exact if_pos (bI_z _)
theorem fc_needHint_s (hp : Sp.ok w t p) (hC : CSp σ p) (v : Int32) : fc_X11_needHint σ v = some (if vIn v p.H = true then .inr () else .inl 4, σ) := by
  unfold fc_X11_needHint
  rw [fc_hasHint_v hp hC, Option.bind_some, bI_if]
  by_cases q : vIn v p.H = true
  · rw [if_pos q, if_pos q]
  · rw [if_neg q, if_neg q]
/-- the shop alone is changed -/
theorem Rel.shop {p' : Sp} {ps : List (Nat × Nat)} {ks : List Nat} (hR : Rel g σ τ) (hp' : Sp.ok g.w g.t p') (hH : g.p.H ≤ p'.H) (hC' : CSp σ1 p') (hM' : MSp τ1 p') (hf : cFr ps σ σ1) (hps : ∀ q ∈ ps, q ∈ ([(5, 0), (12, 12), (15, 3)] : List (Nat × Nat))) (hc : cn σ1 = cn σ) (hr : mFr ks τ τ1) (hks : ∀ k ∈ ks, k ∈ ([0, 43, 44, 45, 46] : List Nat)) : Rel (g.w, g.l, g.t, p') σ1 τ1 := by
  obtain ⟨⟨k1, k2, k3, hp, k5, k6⟩, ⟨r1, r2, r3, hC, r5, r6, r7, s0, r8⟩, ⟨m1, m2, m3, m4, m5, hM⟩⟩ := hR
  have hw' : ∀ q ∈ ps, q ∈ cWf := fun q hq => by
    have := hps q hq
    unfold cWf
    refine List.mem_append_right _ ?_
    simp at this ⊢
    rcases this with h | h | h
    · exact Or.inr (Or.inr (Or.inl h))
    · exact Or.inr (Or.inr (Or.inr (Or.inl h)))
    · exact Or.inr (Or.inr (Or.inr (Or.inr h)))
  have no : ∀ q : Nat × Nat, q ∉ ([(5, 0), (12, 12), (15, 3)] : List (Nat × Nat)) → q ∉ ps := fun q h h2 => h (hps q h2)
  have nk : ∀ k, k ∉ ([0, 43, 44, 45, 46] : List Nat) → k ∉ ks := fun k h h2 => h (hks k h2)
  refine ⟨⟨k1, k2, k3, hp', fun n h0 hn => ?_, k6⟩, ⟨r1.fr r6 hf (fun q hq hw => ?_), r2.fr r6 hf (no _ (by decide)) (no _ (by decide)), r3.fw hf r6 hw' hc, hC', ⟨r5.1.fr hf r6 (no _ (by decide)) (no _ (by decide)), r5.2.fr r6 hf (fun q hq => ⟨fun z => cWf_no hw' (k := q.1) (i := q.2) (by omega) hq, fun z => cWf_no hw' (k := q.1) (i := q.2) (by omega) hq⟩)⟩, r6.fr hf, by rw [hc]; exact r7, s0, RSt0.fw r8 hf hw'⟩, ⟨m1.fr hr (fun k q => nk k (by revert k; decide)), m2.fr hr (nk 1 (by decide)) (nk 2 (by decide)), m3.fr hr (fun k q => nk k (by revert k; decide)), m4.fr hr (fun k q => nk k (by revert k; decide)), m5.fr hr (nk 31 (by decide)), hM'⟩⟩
  · obtain ⟨x1, x2, x3⟩ := k5 n h0 hn
    exact ⟨x1, fun h1 h2 b hb => Nat.lt_of_lt_of_le (x2 h1 h2 b hb) hH, x3⟩
  · have := hps q hq
    simp at this
    rcases this with rfl | rfl | rfl <;> revert hw <;> decide
theorem meth_hint (hR : Rel g σ τ) (v : Int32) : Alk [1, 2] g (fc_X11_hint σ v) (fm_hint τ v) := by
  obtain ⟨⟨k1, k2, k3, hp, k5, k6⟩, ⟨r1, r2, r3, hC, r5, r6, r7, s0, r8⟩, ⟨m1, m2, m3, m4, m5, hM⟩⟩ := id hR
  obtain ⟨⟨h12, hSN⟩, s2, s3, s4, s5, s6, s7⟩ := id hp
  have bad : ∀ k, 0 < k → k < 1000 → fm_hint_29 τ v (nI k) = some (0, mI τ 0 (nI k)) := fun k h1 h2 => by
    unfold fm_hint_29
    rw [wrong_s τ (by omega) h1]
    exact if_neg nz1
  unfold fc_X11_hint fm_hint
  show Alk [1, 2] g (if v < nI 1 then fc_X11_hint_11 σ else if v ≤ nI 50 then _ else fc_X11_hint_11 σ) (Option.bind (fm_isBetween v (nI 1) (nI 50)) _)
  rw [bt_c v (by omega) (by omega), fm_betw_v v (by omega) (by omega), Option.bind_some, bI_if]
  refine Alk.ite (fun qv => ?_) fun _ => Alk.x (c := 1) (j := 0) (v := 0) hR rfl (bad 1 (by omega) (by omega)) rfl
  rw [hC.1.1, hM.1.1, n12]
  by_cases hH : g.p.H = 12
  · rw [if_pos (show nI g.p.H = nI 12 by rw [hH]), if_neg (show ¬ nI g.p.H < nI 12 by rw [jLt (by omega) (by omega)]; omega)]
    exact Alk.x (c := 2) (j := 1) (v := 0) hR rfl (bad 2 (by omega) (by omega)) rfl
  · have x1 : ¬ (nI g.p.H < 0 ∨ 12 ≤ (nI g.p.H).toNatClampNeg) := fun h => (jIn (show g.p.H < 12 by omega) (by omega)).mp h
    rw [if_neg (show ¬ nI g.p.H = nI 12 by rw [jEq (by omega) (by omega)]; exact hH), if_pos (show nI g.p.H < nI 12 by rw [jLt (by omega) (by omega)]; omega), if_neg x1, jCl (by omega)]
    have e1 : cI (uI σ 12 12 g.p.H v) 5 0 2 = nI g.p.H := hC.1.1
    obtain ⟨σ1, hσ⟩ : ∃ σ1, σ1 = uI (uI σ 12 12 g.p.H v) 5 0 2 (nI (g.p.H + 1)) := ⟨_, rfl⟩
    obtain ⟨τ1, hτ⟩ : ∃ τ1, τ1 = mI (mA (mI τ 0 (nI 0)) 43 g.p.H v) 45 (nI (g.p.H + 1)) := ⟨_, rfl⟩
    have hfr : mFr [0, 43, 45] τ τ1 := by rw [hτ]; exact ((mFr.I (by decide)).tr (mFr.A (by decide))).tr (mFr.I (by decide))
    have hf : cFr [(12, 12), (5, 0)] σ σ1 := by rw [hσ]; exact (cFr.I (by simp)).tr (cFr.I (by simp))
    have I5 : ∀ f, cI σ1 5 0 f = if f = 2 then nI (g.p.H + 1) else cI σ 5 0 f := fun f => by rw [hσ, uI_at]; rfl
    have I12 : ∀ j, cI σ1 12 12 j = if j = g.p.H then v else cI σ 12 12 j := fun j => by rw [hσ, uI_ne _ _ _ (by decide), uI_at]
    have hc : cn σ1 = cn σ := by rw [hσ]; rfl
    have em : fm_hint_29 τ v (nI 0) = some (nI g.p.H, τ1) := by
      unfold fm_hint_29
      rw [right_s]
      have e45 : (mI τ 0 (nI 0)).1 45 = nI g.p.H := hM.1.1
      show (if nI 0 = 0 then (if (mI τ 0 (nI 0)).1 45 < 0 ∨ 12 ≤ ((mI τ 0 (nI 0)).1 45).toNatClampNeg then none else some ((mI (mA (mI τ 0 (nI 0)) 43 ((mI τ 0 (nI 0)).1 45).toNatClampNeg v) 45 ((mI τ 0 (nI 0)).1 45 + nI 1)).1 45 - nI 1, mI (mA (mI τ 0 (nI 0)) 43 ((mI τ 0 (nI 0)).1 45).toNatClampNeg v) 45 ((mI τ 0 (nI 0)).1 45 + nI 1))) else _) = _
      rw [if_pos (show nI 0 = 0 from rfl), e45, if_neg x1, jCl (by omega), jAdd, mI_at, ← hτ, jSub (by omega), show g.p.H + 1 - 1 = g.p.H by omega]
    refine ⟨(g.w, g.l, g.t, pHint g.p v), .inr (nI g.p.H), σ1, nI g.p.H, τ1, ?_, em, ?_, hR.shop ?_ (Nat.le_succ _) ?_ ?_ hf (by decide) hc hfr (by decide)⟩
    · rw [e1, n1, jAdd, ← hσ, I5, if_pos rfl, jSub (by omega), show g.p.H + 1 - 1 = g.p.H by omega]
    · rw [hτ, mI_ne _ _ (by decide)]
      show Agr _ _ _ ((mI τ 0 (nI 0)).1 0)
      rw [mI_at]
      exact Agr.v
    · refine ⟨⟨show g.p.H + 1 ≤ 12 by omega, hSN⟩, s2, fun h hh => s3 h (by have : g.p.H + 1 ≤ h := hh; omega), fun s hs => ?_, s5, s6, ?_⟩
      · obtain ⟨x1, x2⟩ := s4 s hs
        exact ⟨Nat.lt_succ_of_lt x1, x2⟩
      · show Sp.paid (pHint g.p v) g.p.S + g.p.co = 100 + g.p.ea
        rw [paid_cg (p' := pHint g.p v) (p := g.p) rfl]
        exact s7
    · obtain ⟨⟨a1, a2, a3, a4, a5⟩, b, c, d⟩ := hC
      refine ⟨⟨by rw [I5]; rfl, by rw [I5]; exact a2, by rw [I5]; exact a3, (a4.fr hf (by decide) (fun e _ => by simp)).1, by rw [hc]; exact a5⟩, fun h hh => ?_, fun h hh => ?_, fun s hs => ?_⟩
      · have hh : h < g.p.H + 1 := hh
        show cI σ1 12 12 h = if h = g.p.H then v else g.p.ba h
        rw [I12]
        by_cases z : h = g.p.H
        · rw [if_pos z, if_pos z]
        · rw [if_neg z, if_neg z]
          exact b h (by omega)
      · rw [hσ]; exact c h hh
      · obtain ⟨q1, -, q3⟩ := (hf.2 9 s (by rw [a5]; exact hs)).2.2 (by simp)
        rw [q1, q3]
        exact d s hs
    · obtain ⟨⟨u1, u2, u3⟩, b, c, d⟩ := hM
      have A := fun k (h : k ∉ ([0, 43, 45] : List Nat)) => hfr k h
      refine ⟨⟨by rw [hτ]; exact mI_at _ _ _, by rw [(A 46 (by decide)).1]; exact u2, by rw [(A 49 (by decide)).1]; exact u3⟩, fun h hh => ?_, by rw [(A 44 (by decide)).2.2.2]; exact c, by rw [(A 47 (by decide)).2.2.1, (A 48 (by decide)).2.2.1, (A 32 (by decide)).2.2.1]; exact d⟩
      have hh : h < g.p.H + 1 := hh
      show τ1.2.2.1 43 h = if h = g.p.H then v else g.p.ba h
      rw [hτ]
      show (mA (mI τ 0 (nI 0)) 43 g.p.H v).2.2.1 43 h = _
      rw [mA_at]
      by_cases z : h = g.p.H
      · rw [if_pos z, if_pos z]
      · rw [if_neg z, if_neg z]
        exact b h (by omega)
/-- whether a hint was sold -/
def sSold (p : Sp) (x d : Nat) (h : Nat) : Bool := (List.range' x d).any fun s => decide (p.sh s = h)
theorem sSold_s (p : Sp) (x d h : Nat) : sSold p x (d + 1) h = (decide (p.sh x = h) || sSold p (x + 1) d h) := by
  unfold sSold
  rw [List.range'_succ, List.any_cons]
theorem bI_or (a b : Bool) : bI a ||| bI b = bI (a || b) := by cases a <;> cases b <;> decide
theorem fm_wasSold_l (ht : Tr.ok w t) (hp : Sp.ok w t p) (hM : MSp τ p) {h : Nat} (hh : h < 1000) : ∀ (d x : Nat) (a : Bool) (f : Nat), x + d = p.S → d < f → fm_wasSold_4 f τ (nI h) (bI a) (nI x) = some (bI (a || sSold p x d h), τ) := by
  have hS : p.S ≤ 80 := Nat.le_trans hp.1.2 ht.1.1
  have h80 := ht.1.1
  intro d
  induction d with
  | zero =>
    intro x a f hx hf
    obtain ⟨f, rfl⟩ : ∃ m, f = m + 1 := ⟨f - 1, by omega⟩
    rw [show fm_wasSold_4 (f + 1) τ (nI h) (bI a) (nI x) = if (τ.1 49) ≤ nI x then (if bI a &&& 1 = bI a then some (bI a, τ) else none) else _ from rfl]
    rw [hM.1.2.2, if_pos (show nI p.S ≤ nI x by rw [jLe (by omega) (by omega)]; omega), if_pos (show bI a &&& 1 = bI a from bI_z a)]
    show _ = some (bI (a || false), τ)
    rw [Bool.or_false]
  | succ d ih =>
    intro x a f hx hf
    obtain ⟨f, rfl⟩ : ∃ m, f = m + 1 := ⟨f - 1, by omega⟩
    obtain ⟨y1, y2, y3⟩ := hM.2.2.2 x (by omega)
    obtain ⟨z1, z2, z3⟩ := hp.2.2.2.1 x (by omega)
    have hH := hp.1.1
    rw [show fm_wasSold_4 (f + 1) τ (nI h) (bI a) (nI x) = if (τ.1 49) ≤ nI x then _ else if nI x < 0 ∨ 80 ≤ (nI x).toNatClampNeg then none else if (τ.2.2.1 47 (nI x).toNatClampNeg) < 0 ∨ 80 ≤ (τ.2.2.1 47 (nI x).toNatClampNeg).toNatClampNeg then none else if (τ.2.2.1 32 (τ.2.2.1 47 (nI x).toNatClampNeg).toNatClampNeg) = nI h then fm_wasSold_33 (fm_wasSold_4 f) τ (nI h) (nI x) (1 : Int32) (bI a) else fm_wasSold_33 (fm_wasSold_4 f) τ (nI h) (nI x) (0 : Int32) (bI a) from rfl]
    rw [hM.1.2.2, if_neg (show ¬ nI p.S ≤ nI x by rw [jLe (by omega) (by omega)]; omega), if_neg (iN0 (show x < 80 by omega) (by omega)), jCl (by omega), y1, if_neg (iN0 (show p.sn x < 80 by omega) (by omega)), jCl (by omega), y3]
    unfold fm_wasSold_33
    rw [show (1 : Int32) = bI true from rfl, show (0 : Int32) = bI false from rfl, bI_or, bI_or, show nI x + bI true = nI (x + 1) from jAdd x 1, sSold_s]
    by_cases q : p.sh x = h
    · rw [if_pos (show nI (p.sh x) = nI h by rw [q]), ih (x + 1) _ f (by omega) (by omega), decide_eq_true q]
      congr 3
      cases a <;> rfl
    · rw [if_neg (show ¬ nI (p.sh x) = nI h from fun z => q ((jEq (by omega) (by omega)).mp z)), ih (x + 1) _ f (by omega) (by omega), decide_eq_false q]
      congr 3
      cases a <;> rfl
theorem fc_wasSold_l (ht : Tr.ok w t) (hp : Sp.ok w t p) (hC : CSp σ p) {h : Nat} (hh : h < 1000) : ∀ (d x : Nat) (f : Nat), x + d = p.S → d < f → fc_X5_wasSold_2 f σ (nI h) (nI x) = some (bI (sSold p x d h), σ) := by
  have hS : p.S ≤ 80 := Nat.le_trans hp.1.2 ht.1.1
  have hL := hC.1.2.2.2.1
  intro d
  induction d with
  | zero =>
    intro x f hx hf
    obtain ⟨f, rfl⟩ : ∃ m, f = m + 1 := ⟨f - 1, by omega⟩
    rw [show fc_X5_wasSold_2 (f + 1) σ (nI h) (nI x) = (fc_Jx4a65c_size_8abf5 σ (some 1)).bind fun r_1 => if r_1.1 ≤ nI x then (if (0 : Int32) &&& 1 = (0 : Int32) then some ((0 : Int32), r_1.2) else none) else _ from rfl]
    rw [hL.size, Option.bind_some]
    refine (if_pos (show nI p.S ≤ nI x by rw [jLe (by omega) (by omega)]; omega)).trans ?_
    exact if_pos (show (0 : Int32) &&& 1 = 0 by decide)
  | succ d ih =>
    intro x f hx hf
    obtain ⟨f, rfl⟩ : ∃ m, f = m + 1 := ⟨f - 1, by omega⟩
    obtain ⟨y1, y2, y3⟩ := hC.2.2.2 x (by omega)
    obtain ⟨z1, z2, z3⟩ := hp.2.2.2.1 x (by omega)
    have hH := hp.1.1
    have h9 : x < cn σ 9 := by rw [hC.1.2.2.2.2]; omega
    rw [show fc_X5_wasSold_2 (f + 1) σ (nI h) (nI x) = (fc_Jx4a65c_size_8abf5 σ (some 1)).bind fun r_1 => if r_1.1 ≤ nI x then _ else (fc_Jx4a65c_get_915e3 r_1.2 (some 1) (nI x) 9).bind fun r_2 => if ¬ (lvq r_2.2 9 r_2.1 = true) then none else (dr r_2.2 9 r_2.1).bind fun i_3 => if (cI r_2.2 9 i_3 0) = nI h then (if (1 : Int32) &&& 1 = (1 : Int32) then some ((1 : Int32), r_2.2) else none) else (fc_X5_wasSold_2 f) r_2.2 (nI h) (nI x + (1 : Int32)) from rfl]
    rw [hL.size, Option.bind_some]
    refine (if_neg (show ¬ nI p.S ≤ nI x by rw [jLe (by omega) (by omega)]; omega)).trans ?_
    show (fc_Jx4a65c_get_915e3 σ (some 1) (nI x) 9).bind _ = _
    rw [hL.get (by omega) (by omega), Option.bind_some]
    refine (if_neg (fun z => (lvq_mk h9).mp z)).trans ?_
    rw [dr_mk h9, Option.bind_some]
    show (if cI σ 9 x 0 = nI h then (if (1 : Int32) &&& 1 = (1 : Int32) then some ((1 : Int32), σ) else none) else (fc_X5_wasSold_2 f) σ (nI h) (nI x + (1 : Int32))) = _
    rw [y1, sSold_s, n1, jAdd]
    by_cases q : p.sh x = h
    · rw [if_pos (show nI (p.sh x) = nI h by rw [q]), if_pos (show nI 1 &&& nI 1 = nI 1 by decide), decide_eq_true q]
      rfl
    · rw [if_neg (show ¬ nI (p.sh x) = nI h from fun z => q ((jEq (by omega) (by omega)).mp z)), ih (x + 1) f (by omega) (by omega), decide_eq_false q]
      rfl
end H20
