/-! Told ahead of play: exit, lock. -/
/-- an exit with its lock -/
def wXL (w : Wd) (i : Nat) (o p : Option Nat) : Wd := (w.1, w.2.1, w.2.2.1, w.2.2.2.1, (fun b j => if j = i then (if b = 0 then o else if b = 1 then p else w.2.2.2.2.1 b j) else w.2.2.2.2.1 b j), w.2.2.2.2.2)
section E20
variable {g : Gm} {σ σ1 : cS} {τ τ1 : mS} {w : Wd} {i : Nat} {o p : Option Nat}
theorem wXL_ex (j : Nat) : (wXL w i o p).ex j = if j = i then o else w.ex j := rfl
theorem wXL_lk (j : Nat) : (wXL w i o p).lk j = if j = i then p else w.lk j := rfl
theorem wXL_ok (hw : Wd.ok w) (hi : i < 6 * w.R) (ho : ∀ q, o = some q → q < w.R) (hp : ∀ q, p = some q → q < w.T ∧ o ≠ none) : Wd.ok (wXL w i o p) := by
  obtain ⟨a1, b, c, d, e, f⟩ := hw
  refine ⟨a1, b, c, fun j q hj => ?_, fun j q hj => ?_, f⟩
  · rw [wXL_ex] at hj
    by_cases z : j = i
    · rw [if_pos z] at hj
      exact ⟨by rw [z]; exact hi, ho q hj⟩
    · rw [if_neg z] at hj
      exact d j q hj
  · rw [wXL_lk] at hj
    rw [wXL_ex]
    by_cases z : j = i
    · rw [if_pos z] at hj
      rw [if_pos z]
      exact hp q hj
    · rw [if_neg z] at hj
      rw [if_neg z]
      exact e j q hj
theorem CWd.xl (hC : CWd σ w) (h2 : ∀ j, cI σ1 12 2 j = if j = i then oI o else cI σ 12 2 j) (h3 : ∀ j, cI σ1 12 3 j = if j = i then oI p else cI σ 12 3 j) (hI : ∀ k j, ¬ (k = 12 ∧ (j = 2 ∨ j = 3)) → cI σ1 k j = cI σ k j) (hJ : cJ σ1 = cJ σ) : CWd σ1 (wXL w i o p) := by
  obtain ⟨c1, c5, c6, c7, c8, c9, c10, c11⟩ := hC
  refine ⟨by rw [hI 2 0 (by omega)]; exact c1, by rw [hJ]; exact c5, by rw [hI 13 0 (by omega)]; exact c6, by rw [hJ]; exact c7, fun j hj => ?_, by rw [hI 12 4 (by omega), hI 12 6 (by omega), hI 14 1 (by omega)]; exact c9, by rw [hI 12 5 (by omega), hI 12 7 (by omega)]; exact c10, by rw [hI 12 8 (by omega), hI 12 9 (by omega)]; exact c11⟩
  rw [h2, h3, wXL_ex, wXL_lk]
  by_cases z : j = i
  · rw [if_pos z, if_pos z, if_pos z, if_pos z]
    exact ⟨rfl, rfl⟩
  · rw [if_neg z, if_neg z, if_neg z, if_neg z]
    exact c8 j hj
theorem MWd.xl (hM : MWd τ w) (h7 : ∀ j, τ1.2.2.1 7 j = if j = i then oI o else τ.2.2.1 7 j) (h8 : ∀ j, τ1.2.2.1 8 j = if j = i then oI p else τ.2.2.1 8 j) (hf : mFr [0, 7, 8] τ τ1) : MWd τ1 (wXL w i o p) := by
  obtain ⟨d1, d5, d6, d7, d8, d9, d10⟩ := hM
  have A := fun k (h : k ∉ ([0, 7, 8] : List Nat)) => hf k h
  refine ⟨by rw [(A 4 (by decide)).1, (A 9 (by decide)).1, (A 16 (by decide)).1, (A 19 (by decide)).1]; exact d1, by rw [(A 3 (by decide)).2.2.1]; exact d5, by rw [(A 5 (by decide)).2.2.1]; exact d6, by rw [(A 6 (by decide)).2.2.2, (A 15 (by decide)).2.2.2]; exact d7, fun j hj => ?_, by rw [(A 10 (by decide)).2.2.1, (A 11 (by decide)).2.2.1, (A 12 (by decide)).2.2.1, (A 13 (by decide)).2.2.1, (A 14 (by decide)).2.2.1]; exact d9, by rw [(A 17 (by decide)).2.2.1, (A 18 (by decide)).2.2.1]; exact d10⟩
  rw [h7, h8, wXL_ex, wXL_lk]
  by_cases z : j = i
  · rw [if_pos z, if_pos z, if_pos z, if_pos z]
    exact ⟨rfl, rfl⟩
  · rw [if_neg z, if_neg z, if_neg z, if_neg z]
    exact d8 j hj
theorem meth_exit (hR : Rel g σ τ) (x y : Int32) {c : Nat} (hc : c < 65536) : Alk [4, 1, 2] g (fc_X11_exit σ x (nI c) y) (fm_exit τ x (nI c) y) := by
  have hw := hR.1.1
  have hC := hR.2.1.1
  have hM := hR.2.2.1
  have hT := hR.2.2.2.2.1
  have bad : ∀ k, 0 < k → k < 1000 → fm_exit_45 τ x (nI c) y (nI k) = some (0, mI τ 0 (nI k)) := fun k h1 h2 => by
    unfold fm_exit_45
    rw [wrong_s τ (by omega) h1]
    exact if_neg nz1
  unfold fc_X11_exit fm_exit fm_exit_17
  rw [fc_needRoom_s hw hC, xb_if, fm_isRoom_s hw hM, Option.bind_some, bI_if]
  refine Alk.ite (fun qr => ?_) fun _ => Alk.x (c := 4) (j := 0) (v := 0) hR rfl (bad 1 (by omega) (by omega)) rfl
  show Alk [4, 1, 2] g (xb (fc_X11_needRoom σ y) _) (Option.bind (fm_isRoom τ y) _)
  rw [fc_needRoom_s hw hC, xb_if, fm_isRoom_s hw hM, Option.bind_some, bI_if]
  refine Alk.ite (fun qw => ?_) fun _ => Alk.x (c := 4) (j := 0) (v := 0) hR rfl (bad 1 (by omega) (by omega)) rfl
  obtain ⟨⟨-, h12, -⟩, -⟩ := id hw
  obtain ⟨r, rfl, hr⟩ := vIn_ex (by omega) qr
  obtain ⟨q, rfl, hq⟩ := vIn_ex (by omega) qw
  show Alk [4, 1, 2] g (xb (fc_X11_exitIn σ (nI r) (nI c)) _) (Option.bind (fm_directionOf (nI c)) _)
  rw [fc_exitIn_s (by omega), fm_directionOf_s (by omega), Option.bind_some]
  cases hd : sDir c with
  | none =>
    rw [if_pos (show oI none = (-1 : Int32) from rfl)]
    exact Alk.x (c := 1) (j := 1) (v := 0) hR rfl (bad 2 (by omega) (by omega)) rfl
  | some d =>
    have hd6 := (sDir_lt hd).1
    rw [if_neg (show ¬ oI (some d) = (-1 : Int32) from fun h => (jM1 (a := d) (by omega)).mp h)]
    show Alk [4, 1, 2] g (xb (fc_X11_needNoPlay σ) _) (if τ.1 20 = 0 then _ else _)
    rw [fc_needNoPlay_s hR.2.1.2.2.1 hR.1.2.2.1.1.1, xb_ifP, begun_if hT]
    refine Alk.ite (fun h0 => ?_) fun _ => Alk.x (c := 2) (j := 2) (v := 0) hR rfl (bad 3 (by omega) (by omega)) rfl
    have hi : 6 * r + d < 72 := by omega
    have i72 : ¬ (nI (6 * r + d) < 0 ∨ 72 ≤ (nI (6 * r + d)).toNatClampNeg) := fun h => (jIn hi (by omega)).mp h
    have eC : cI σ 12 2 (6 * r + d) = oI (g.w.ex (6 * r + d)) := (hC.2.2.2.2.1 _ hi).1
    have eM : (mI τ 0 (nI 0)).2.2.1 7 (6 * r + d) = oI (g.w.ex (6 * r + d)) := (hM.2.2.2.2.1 _ (by omega)).1
    refine Alk.ahead (v := oI (g.w.ex (6 * r + d))) (w' := wXL g.w (6 * r + d) (some q) none) (σ' := uI (uI σ 12 2 (6 * r + d) (nI q)) 12 3 (6 * r + d) (-1)) (τ' := mA (mA (mI τ 0 (nI 0)) 7 (6 * r + d) (nI q)) 8 (6 * r + d) (-1)) (ps := [(12, 2), (12, 3)]) (ks := [0, 7, 8]) hR h0 ?_ ?_ (mI_at τ 0 (nI 0)) (wXL_ok hw (by omega) (fun z h => by cases h; exact hq) (fun z h => by cases h)) rfl ((cFr.I (by simp)).tr (cFr.I (by simp))) (by decide) rfl (((mFr.I (by decide)).tr (mFr.A (by decide))).tr (mFr.A (by decide))) (by decide) (CWd.xl hC (fun j => ?_) (fun j => ?_) (fun k j h => ?_) rfl) (MWd.xl hM (fun j => ?_) (fun j => ?_) (((mFr.I (by decide)).tr (mFr.A (by decide))).tr (mFr.A (by decide))))
    · show (if nI (6 * r + d) < 0 ∨ 72 ≤ (nI (6 * r + d)).toNatClampNeg then none else if nI (6 * r + d) < 0 ∨ 72 ≤ (nI (6 * r + d)).toNatClampNeg then none else if nI (6 * r + d) < 0 ∨ 72 ≤ (nI (6 * r + d)).toNatClampNeg then none else some (Sum.inr (cI σ 12 2 (nI (6 * r + d)).toNatClampNeg), (uI (uI σ 12 2 (nI (6 * r + d)).toNatClampNeg (nI q)) 12 3 (nI (6 * r + d)).toNatClampNeg (-1 : Int32)))) = _
      rw [if_neg i72, if_neg i72, if_neg i72, jCl (by omega), eC]
    · unfold fm_exit_45
      rw [n0, right_s]
      show (if nI 0 = nI 0 then (fm_directionOf (nI c)).bind _ else _) = _
      rw [if_pos rfl, fm_directionOf_s (by omega), Option.bind_some, hd]
      show (if (6 * nI r + nI d) < 0 ∨ 72 ≤ (6 * nI r + nI d).toNatClampNeg then none else if (6 * nI r + nI d) < 0 ∨ 72 ≤ (6 * nI r + nI d).toNatClampNeg then none else if (6 * nI r + nI d) < 0 ∨ 72 ≤ (6 * nI r + nI d).toNatClampNeg then none else some ((mI τ 0 (nI 0)).2.2.1 7 (6 * nI r + nI d).toNatClampNeg, (mA (mA (mI τ 0 (nI 0)) 7 (6 * nI r + nI d).toNatClampNeg (nI q)) 8 (6 * nI r + nI d).toNatClampNeg (-1 : Int32)))) = _
      rw [n6, jMul, jAdd, if_neg i72, if_neg i72, if_neg i72, jCl (by omega), eM]
    · rw [uI_ne _ _ _ (by decide), uI_at]; rfl
    · rw [uI_at]
      rfl
    · rw [uI_ne _ _ _ (fun z => h ⟨z.1, Or.inr z.2⟩), uI_ne _ _ _ (fun z => h ⟨z.1, Or.inl z.2⟩)]
    · rw [mA_ne _ _ _ (by decide), mA_at]; rfl
    · rw [mA_at]; rfl
theorem meth_lock (hR : Rel g σ τ) (x y : Int32) {c : Nat} (hc : c < 65536) : Alk [4, 1, 3, 2] g (fc_X11_lock σ x (nI c) y) (fm_lock τ x (nI c) y) := by
  have hw := hR.1.1
  have hC := hR.2.1.1
  have hM := hR.2.2.1
  have hT := hR.2.2.2.2.1
  have bad : ∀ k, 0 < k → k < 1000 → fm_lock_34 τ x (nI c) y (nI k) = some (0, mI τ 0 (nI k)) := fun k h1 h2 => by
    unfold fm_lock_34
    rw [wrong_s τ (by omega) h1]
    exact if_neg nz1
  have bad2 : ∀ i k, 0 < k → k < 1000 → fm_lock_81 (mI τ 0 (nI 0)) y i (nI k) = some (0, mI τ 0 (nI k)) := fun i k h1 h2 => by
    unfold fm_lock_81
    rw [wrong_s _ (by omega) h1, mI_twice]
    exact if_neg nz1
  unfold fc_X11_lock fm_lock fm_lock_17
  rw [fc_needRoom_s hw hC, xb_if, fm_isRoom_s hw hM, Option.bind_some, bI_if]
  refine Alk.ite (fun qr => ?_) fun _ => Alk.x (c := 4) (j := 0) (v := 0) hR rfl (bad 1 (by omega) (by omega)) rfl
  show Alk [4, 1, 3, 2] g (xb (fc_X11_needThing σ y) _) (Option.bind (fm_isThing τ y) _)
  rw [fc_needThing_s hw hC, xb_if, fm_isThing_s hw hM, Option.bind_some, bI_if]
  refine Alk.ite (fun qw => ?_) fun _ => Alk.x (c := 4) (j := 0) (v := 0) hR rfl (bad 1 (by omega) (by omega)) rfl
  obtain ⟨⟨-, h12, hT12, -⟩, -⟩ := id hw
  obtain ⟨r, rfl, hr⟩ := vIn_ex (by omega) qr
  obtain ⟨q, rfl, hq⟩ := vIn_ex (by omega) qw
  show Alk [4, 1, 3, 2] g (xb (fc_X11_exitIn σ (nI r) (nI c)) _) (Option.bind (fm_directionOf (nI c)) _)
  rw [fc_exitIn_s (by omega), fm_directionOf_s (by omega), Option.bind_some]
  cases hd : sDir c with
  | none =>
    rw [if_pos (show oI none = (-1 : Int32) from rfl)]
    exact Alk.x (c := 1) (j := 1) (v := 0) hR rfl (bad 2 (by omega) (by omega)) rfl
  | some d =>
    have hd6 := (sDir_lt hd).1
    have hi : 6 * r + d < 72 := by omega
    have i72 : ¬ (nI (6 * r + d) < 0 ∨ 72 ≤ (nI (6 * r + d)).toNatClampNeg) := fun h => (jIn hi (by omega)).mp h
    have eC : cI σ 12 2 (6 * r + d) = oI (g.w.ex (6 * r + d)) := (hC.2.2.2.2.1 _ hi).1
    have eM : (mI τ 0 (nI 0)).2.2.1 7 (6 * r + d) = oI (g.w.ex (6 * r + d)) := (hM.2.2.2.2.1 _ (by omega)).1
    have eC3 : cI σ 12 3 (6 * r + d) = oI (g.w.lk (6 * r + d)) := (hC.2.2.2.2.1 _ hi).2
    have eM8 : (mI τ 0 (nI 0)).2.2.1 8 (6 * r + d) = oI (g.w.lk (6 * r + d)) := (hM.2.2.2.2.1 _ (by omega)).2
    rw [if_neg (show ¬ oI (some d) = (-1 : Int32) from fun h => (jM1 (a := d) (by omega)).mp h)]
    have em : fm_lock_34 τ (nI r) (nI c) (nI q) 0 = if oI (g.w.ex (6 * r + d)) = (-1 : Int32) then fm_lock_81 (mI τ 0 (nI 0)) (nI q) (nI (6 * r + d)) 3 else if τ.1 20 = 0 then fm_lock_81 (mI τ 0 (nI 0)) (nI q) (nI (6 * r + d)) 0 else fm_lock_81 (mI τ 0 (nI 0)) (nI q) (nI (6 * r + d)) 4 := by
      unfold fm_lock_34
      rw [show fm_isWrong τ 0 = fm_isWrong τ (nI 0) from rfl, right_s]
      show (if nI 0 = 0 then (fm_directionOf (nI c)).bind _ else _) = _
      rw [if_pos (show nI 0 = 0 from rfl), fm_directionOf_s (by omega), Option.bind_some, hd]
      show (if (6 * nI r + nI d) < 0 ∨ 72 ≤ (6 * nI r + nI d).toNatClampNeg then none else if (mI τ 0 (nI 0)).2.2.1 7 (6 * nI r + nI d).toNatClampNeg = (-1 : Int32) then fm_lock_81 (mI τ 0 (nI 0)) (nI q) (6 * nI r + nI d) 3 else if (mI τ 0 (nI 0)).1 20 = 0 then fm_lock_81 (mI τ 0 (nI 0)) (nI q) (6 * nI r + nI d) 0 else fm_lock_81 (mI τ 0 (nI 0)) (nI q) (6 * nI r + nI d) 4) = _
      rw [n6, jMul, jAdd, if_neg i72, jCl (by omega), eM]
      rfl
    rw [em]
    show Alk [4, 1, 3, 2] g (if nI (6 * r + d) < 0 ∨ 72 ≤ (nI (6 * r + d)).toNatClampNeg then none else if cI σ 12 2 (nI (6 * r + d)).toNatClampNeg = (-1 : Int32) then some (.inl 3, σ) else xb (fc_X11_needNoPlay σ) _) _
    rw [if_neg i72, jCl (by omega), eC]
    refine Alk.ite (fun _ => Alk.x (c := 3) (j := 2) (v := 0) hR rfl (bad2 _ 3 (by omega) (by omega)) rfl) fun hx => ?_
    have hx' : g.w.ex (6 * r + d) ≠ none := fun h => hx (by rw [h]; rfl)
    rw [fc_needNoPlay_s hR.2.1.2.2.1 hR.1.2.2.1.1.1, xb_ifP, begun_if hT]
    refine Alk.ite (fun h0 => ?_) fun _ => Alk.x (c := 2) (j := 3) (v := 0) hR rfl (bad2 _ 4 (by omega) (by omega)) rfl
    refine Alk.ahead (v := oI (g.w.lk (6 * r + d))) (w' := wXL g.w (6 * r + d) (g.w.ex (6 * r + d)) (some q)) (σ' := uI σ 12 3 (6 * r + d) (nI q)) (τ' := mA (mI τ 0 (nI 0)) 8 (6 * r + d) (nI q)) (ps := [(12, 3)]) (ks := [0, 8]) hR h0 ?_ ?_ (mI_at τ 0 (nI 0)) (wXL_ok hw (by omega) (fun z h => (hw.2.2.2.1 _ _ h).2) (fun z h => by cases h; exact ⟨hq, hx'⟩)) rfl (cFr.I (by simp)) (by decide) rfl ((mFr.I (by decide)).tr (mFr.A (by decide))) (by decide) (CWd.xl hC (fun j => ?_) (fun j => ?_) (fun k j h => ?_) rfl) (MWd.xl hM (fun j => ?_) (fun j => ?_) ((mFr.I (by decide)).tr (mFr.A (by decide))))
    · have i72c : ¬ (nI (6 * r + d) < 0 ∨ 72 ≤ 6 * r + d) := fun h => i72 (by rw [jCl (by omega)]; exact h)
      show (if nI (6 * r + d) < 0 ∨ 72 ≤ 6 * r + d then none else if nI (6 * r + d) < 0 ∨ 72 ≤ 6 * r + d then none else some (Sum.inr (cI σ 12 3 (6 * r + d)), (uI σ 12 3 (6 * r + d) (nI q)))) = _
      rw [if_neg i72c, if_neg i72c, eC3]
    · unfold fm_lock_81
      rw [n0, right_s, mI_twice]
      show (if nI 0 = nI 0 then (if nI (6 * r + d) < 0 ∨ 72 ≤ (nI (6 * r + d)).toNatClampNeg then none else if nI (6 * r + d) < 0 ∨ 72 ≤ (nI (6 * r + d)).toNatClampNeg then none else some ((mI τ 0 (nI 0)).2.2.1 8 (nI (6 * r + d)).toNatClampNeg, (mA (mI τ 0 (nI 0)) 8 (nI (6 * r + d)).toNatClampNeg (nI q)))) else _) = _
      rw [if_pos rfl, if_neg i72, if_neg i72, jCl (by omega), eM8]
    · rw [uI_ne _ _ _ (by decide)]
      by_cases z : j = 6 * r + d
      · rw [if_pos z, z, eC]
      · rw [if_neg z]
    · rw [uI_at]; rfl
    · rw [uI_ne _ _ _ (fun z => h ⟨z.1, Or.inr z.2⟩)]
    · rw [mA_ne _ _ _ (by decide)]
      by_cases z : j = 6 * r + d
      · rw [if_pos z, z, eM]
      · rw [if_neg z]; rfl
    · rw [mA_at]; rfl
end E20
