/-! To go to a node: common, undo, redo. -/
def gAt (g : Gm) (m : Nat) : Gm := (g.w, g.l, tAt g.t m, g.p)
section D19
variable {g : Gm} {σ : cS} {τ : mS}
theorem Gm.ok.at_ (h : Gm.ok g) {m : Nat} (hm : m < g.t.N) : Gm.ok (gAt g m) := by
  obtain ⟨h1, h2, ⟨⟨a1, a2, a3⟩, a4, a5, a6⟩, h4, h5, h6⟩ := h
  exact ⟨h1, h2, ⟨⟨a1, fun _ => hm, fun z => by have z : g.t.N = 0 := z; omega⟩, a4, a5, a6⟩, h4, h5, h6⟩
theorem CR.at_ (h : CR σ g) (m : Nat) : CR (uI σ 4 0 2 (nI m)) (gAt g m) := by
  obtain ⟨h1, h2, h3, h4, h5, h6, h7, s, h8⟩ := h
  have hf : cFr [(4, 0)] σ (uI σ 4 0 2 (nI m)) := cFr.I (List.mem_singleton.mpr rfl)
  exact ⟨h1.fr h6 hf (by decide), h2.fr h6 hf (by simp) (by simp), h3.at_, h4.fr hf h6 (by simp) (by simp) (by simp) (by simp) (fun e _ => by simp) (fun s _ => by simp) rfl, ⟨h5.1.fr hf h6 (by simp) (by simp), h5.2.fr h6 hf (by decide)⟩, h6.fr hf, h7, s, h8.fr hf (fun q hq => by rw [List.mem_singleton] at hq; rw [hq]; unfold cSc; simp)⟩
theorem MR.at_ (h : MR τ g) (m : Nat) : MR (mI τ 34 (nI m)) (gAt g m) := by
  obtain ⟨h1, h2, ⟨⟨a1, a2, a3⟩, a4⟩, h4, h5, h6⟩ := h
  have hf : mFr [34] τ (mI τ 34 (nI m)) := mFr.I (List.mem_singleton.mpr rfl)
  exact ⟨h1.fr hf (by decide), h2.fr hf (by decide) (by decide), ⟨⟨by rw [mI_ne _ _ (by decide)]; exact a1, mI_at _ _ _, by rw [mI_ne _ _ (by decide)]; exact a3⟩, (MNs.fr (τ := τ) (w := g.w) (t := g.t) a4 hf (by decide))⟩, h4.fr hf (by decide), h5.fr hf (by decide), h6.fr hf (by decide)⟩
/-- play goes to a node on both sides -/
theorem Alk.go {ex : List Nat} {m : Nat} {f : Option ((Nat ⊕ Int32) × cS)} {r : Option (Int32 × mS)} (hR : Rel g σ τ) (hm : m < g.t.N) (hf : f = some (.inr (nI m), uI σ 4 0 2 (nI m))) (hr : r = some (nI m, mI (mI τ 0 (nI 0)) 34 (nI m))) : Alk ex g f r :=
  ⟨gAt g m, .inr (nI m), _, nI m, _, hf, hr, by rw [mI_ne _ _ (by decide), mI_at]; exact Agr.v, hR.1.at_ hm, hR.2.1.at_ m, (hR.2.2.th _).at_ m⟩
theorem meth_common (hR : Rel g σ τ) (u v : Int32) : Alk [4] g (fc_X11_common σ u v) (fm_common τ u v) := by
  have hC := hR.2.1.2.2.1
  have ht := hR.1.2.2.1
  have h80 := ht.1.1
  have hM : MTr (mI τ 0 (nI 0)) g.w g.t := hR.2.2.2.2.1.fr (mFr.I (List.mem_singleton.mpr rfl)) (by decide)
  have hM0 := hR.2.2.2.2.1
  unfold fc_X11_common fm_common fm_common_21
  rw [fc_nodeOf_s hC h80 u, fm_isNode_s hM0 h80 u, Option.bind_some, bI_if]
  by_cases q : vIn u g.t.N = true
  · obtain ⟨e, h⟩ := vIn_of (by omega) q
    rw [if_pos q, if_pos q]
    show Alk [4] g (xb (fc_X11_nodeOf σ v) fun v_2 u_2 => (dr u_2 7 (some u.toNatClampNeg)).bind fun i_3 => (fc_X2_lastInCommon u_2 (some u.toNatClampNeg) v_2).bind fun r_4 => some (Sum.inr r_4.1, r_4.2)) ((fm_isNode τ v).bind fun r_2 => if r_2.1 = 0 then fm_common_22 r_2.2 u v 1 else fm_common_22 r_2.2 u v 0)
    rw [fc_nodeOf_s hC h80 v, fm_isNode_s hM0 h80 v, Option.bind_some, bI_if]
    by_cases q2 : vIn v g.t.N = true
    · obtain ⟨e2, h2⟩ := vIn_of (by omega) q2
      rw [if_pos q2, if_pos q2]
      refine Alk.v (v := oI (sCom g.t u.toNatClampNeg v.toNatClampNeg)) (ks := [0]) (τ' := mI τ 0 (nI 0)) hR ?_ ?_ (mI_at _ _ _) (mFr.I (by decide)) (by decide)
      · show ((dr σ 7 (some u.toNatClampNeg)).bind fun i_3 => (fc_X2_lastInCommon σ (some u.toNatClampNeg) (some v.toNatClampNeg)).bind fun r_4 => some (Sum.inr r_4.1, r_4.2)) = _
        rw [hC.dn h, Option.bind_some, fc_lastInCommon_s ht hC h h2, Option.bind_some]
      · unfold fm_common_22
        rw [show (0 : Int32) = nI 0 from rfl, right_s]
        show (if nI 0 = nI 0 then fm_common_35 3000 (mI τ 0 (nI 0)) u v else _) = _
        have g2 := fm_common_l ht hM (u.toNatClampNeg + v.toNatClampNeg) u.toNatClampNeg v.toNatClampNeg 3000 h h2 (Nat.le_refl _) (by omega)
        rw [← e, ← e2] at g2
        rw [if_pos rfl]
        exact g2
    · rw [if_neg q2, if_neg q2]
      refine Alk.x (c := 4) (j := 0) (v := 0) hR rfl ?_ rfl
      unfold fm_common_22
      rw [show (1 : Int32) = nI 1 from rfl, wrong_s τ (by omega) (by omega)]
      exact if_neg nz1
  · rw [if_neg q, if_neg q]
    refine Alk.x (c := 4) (j := 0) (v := 0) hR rfl ?_ rfl
    unfold fm_common_22
    rw [show (1 : Int32) = nI 1 from rfl, wrong_s τ (by omega) (by omega)]
    exact if_neg nz1
theorem meth_undo (hR : Rel g σ τ) : Alk [2, 5] g (fc_X11_undo σ) (fm_undo τ) := by
  have hC := hR.2.1.2.2.1
  have ht := hR.1.2.2.1
  have h80 := ht.1.1
  have hM := hR.2.2.2.2.1
  unfold fc_X11_undo fm_undo
  rw [fc_needPlay_s hC h80, hM.1.2.2, hM.1.2.1]
  by_cases z : g.t.N = 0
  · rw [if_pos z, if_pos (show bI (decide (0 < g.t.N)) = 0 by rw [decide_eq_false (by omega)]; rfl)]
    refine Alk.x (c := 2) (j := 0) (v := 0) hR rfl ?_ rfl
    unfold fm_undo_24
    rw [show (1 : Int32) = nI 1 from rfl, wrong_s τ (by omega) (by omega)]
    exact if_neg nz1
  · have hn := ht.1.2.1 (by omega)
    obtain ⟨-, r1, -⟩ := hC.2.1 _ hn
    rw [if_neg z, if_neg (show ¬ bI (decide (0 < g.t.N)) = 0 by rw [decide_eq_true (by omega)]; decide)]
    show Alk [2, 5] g ((fc_X8_current σ).bind fun r_2 => (dr r_2.2 7 r_2.1).bind fun i_3 => if cR r_2.2 7 i_3 1 = none then some (Sum.inl 5, r_2.2) else (dr r_2.2 7 (cR r_2.2 7 i_3 1)).bind fun i_4 => some (Sum.inr (cI (uI r_2.2 4 0 2 (cI r_2.2 7 i_4 0)) 4 0 2), (uI r_2.2 4 0 2 (cI r_2.2 7 i_4 0)))) (if nI g.t.now = 0 then fm_undo_24 τ 2 else fm_undo_24 τ 0)
    rw [fc_current_s ht hC (by omega), Option.bind_some, hC.dn hn, Option.bind_some, r1]
    by_cases q : g.t.now = 0
    · rw [if_pos q, if_pos rfl, if_pos (show nI g.t.now = 0 by rw [q]; rfl)]
      refine Alk.x (c := 5) (j := 1) (v := 0) hR rfl ?_ rfl
      unfold fm_undo_24
      rw [show (2 : Int32) = nI 2 from rfl, wrong_s τ (by omega) (by omega)]
      exact if_neg nz1
    · have hp := ht.2.1 _ (by omega) hn
      rw [if_neg q, if_neg (fun h => by cases h), if_neg (show ¬ nI g.t.now = 0 from fun h => q ((jEq (b := 0) (by omega) (by omega)).mp h)), hC.dn (by omega), Option.bind_some, (hC.2.1 _ (show g.t.par g.t.now < g.t.N by omega)).1]
      refine Alk.go (m := g.t.par g.t.now) hR (by omega) ?_ ?_
      · rw [uI_at, if_pos rfl]
      · unfold fm_undo_24
        rw [show (0 : Int32) = nI 0 from rfl, right_s]
        have x1 : ¬ 80 ≤ g.t.now := by omega
        have y : (nI g.t.now < nI 0 ∨ False) = False := by
          rw [jLt (by omega) (by omega)]
          simp
        have e34 : (mI τ 0 (nI 0)).1 34 = nI g.t.now := by rw [mI_ne _ _ (by decide)]; exact hM.1.2.1
        have e25 : (mI τ 0 (nI 0)).2.2.1 25 g.t.now = nI (g.t.par g.t.now) := by
          have := (hM.2 _ hn).1
          rw [if_neg q] at this
          exact this
        show (if nI 0 = nI 0 then (if (mI τ 0 (nI 0)).1 34 < nI 0 ∨ 80 ≤ ((mI τ 0 (nI 0)).1 34).toNatClampNeg then none else some ((mI (mI τ 0 (nI 0)) 34 ((mI τ 0 (nI 0)).2.2.1 25 ((mI τ 0 (nI 0)).1 34).toNatClampNeg)).1 34, mI (mI τ 0 (nI 0)) 34 ((mI τ 0 (nI 0)).2.2.1 25 ((mI τ 0 (nI 0)).1 34).toNatClampNeg))) else _) = _
        rw [if_pos rfl, mI_at]
        simp only [e34, jCl (show g.t.now < 100000 by omega), x1, y, if_false, e25]
theorem meth_redo (hR : Rel g σ τ) (v : Int32) : Alk [2, 5] g (fc_X11_redo σ v) (fm_redo τ v) := by
  have hC := hR.2.1.2.2.1
  have ht := hR.1.2.2.1
  have h80 := ht.1.1
  have hM : MTr (mI τ 0 (nI 0)) g.w g.t := hR.2.2.2.2.1.fr (mFr.I (List.mem_singleton.mpr rfl)) (by decide)
  refine Alk.begun (v := 0) hR rfl rfl rfl (fun τ' => if_neg nz1) fun h0 => ?_
  have hn := ht.1.2.1 h0
  have fin : ∀ o : Option Nat, sKid g.t v = o → Alk [2, 5] g ((fc_X8_childAt σ v).bind fun r_2 => if r_2.1 = (-1 : Int32) then some (.inl 5, r_2.2) else some (.inr r_2.1, (uI r_2.2 4 0 2 r_2.1))) (fm_redo_26 (mI τ 0 (nI 0)) (oI o)) := by
    intro o ho
    rw [fc_childAt_s ht hC h0 v, Option.bind_some, ho]
    unfold fm_redo_26 fm_redo_38
    cases o with
    | none =>
      rw [if_pos (show oI none = (-1 : Int32) from rfl), if_pos (show oI none = (-1 : Int32) from rfl)]
      refine Alk.x (c := 5) (j := 1) (v := 0) hR rfl ?_ rfl
      rw [show (2 : Int32) = nI 2 from rfl, wrong_s _ (by omega) (by omega)]
      refine (if_neg nz1).trans ?_
      have : mI (mI τ 0 (nI 0)) 0 (nI 2) = mI τ 0 (nI 2) := by
        show (upd (upd τ.1 0 (nI 0)) 0 (nI 2), τ.2) = (upd τ.1 0 (nI 2), τ.2)
        congr 1
        funext k
        unfold upd
        split <;> rfl
      rw [this]
    | some m =>
      have hm : m < g.t.N := by
        unfold sKid at ho
        split at ho
        · cases ho
        · have := sNth_lt _ _ _ ho
          omega
      rw [if_neg (show ¬ oI (some m) = (-1 : Int32) from fun h => (jM1 (a := m) (by omega)).mp h), if_neg (show ¬ oI (some m) = (-1 : Int32) from fun h => (jM1 (a := m) (by omega)).mp h)]
      refine Alk.go (m := m) hR hm rfl ?_
      rw [show (0 : Int32) = nI 0 from rfl, right_s]
      have : mI (mI τ 0 (nI 0)) 0 (nI 0) = mI τ 0 (nI 0) := by
        show (upd (upd τ.1 0 (nI 0)) 0 (nI 0), τ.2) = (upd τ.1 0 (nI 0), τ.2)
        congr 1
        funext k
        unfold upd
        split <;> rfl
      show (if nI 0 = nI 0 then some ((mI (mI (mI τ 0 (nI 0)) 0 (nI 0)) 34 (nI m)).1 34, mI (mI (mI τ 0 (nI 0)) 0 (nI 0)) 34 (nI m)) else _) = _
      rw [if_pos rfl, mI_at, this]
  show Alk [2, 5] g ((fc_X8_childAt σ v).bind fun r_2 => if r_2.1 = (-1 : Int32) then some (.inl 5, r_2.2) else some (.inr r_2.1, (uI r_2.2 4 0 2 r_2.1))) (if nI 0 = 0 then (if 0 ≤ v then (fm_child (mI τ 0 (nI 0)) ((mI τ 0 (nI 0)).1 34) v).bind fun r_2 => fm_redo_26 r_2.2 r_2.1 else fm_redo_26 (mI τ 0 (nI 0)) (-1)) else _)
  rw [if_pos (show nI 0 = 0 from rfl)]
  by_cases q : v < nI 0
  · rw [if_neg (show ¬ (0 : Int32) ≤ v from fun h => by
      rw [Int32.le_iff_toInt_le] at h
      rw [Int32.lt_iff_toInt_lt] at q
      have e0 : (0 : Int32).toInt = 0 := rfl
      have e1 : (nI 0).toInt = 0 := rfl
      omega)]
    exact fin none (if_pos q)
  · obtain ⟨k, hk, rfl⟩ := nI_of q
    have e34 : (mI τ 0 (nI 0)).1 34 = nI g.t.now := hM.1.2.1
    rw [if_pos (show (0 : Int32) ≤ nI k from by
      rw [Int32.le_iff_toInt_le, nI_toInt hk]
      have e0 : (0 : Int32).toInt = 0 := rfl
      omega), e34, fm_child_s ht hM hn (by omega), Option.bind_some]
    refine fin _ ?_
    unfold sKid
    rw [if_neg q, nI_clamp hk]
end D19
