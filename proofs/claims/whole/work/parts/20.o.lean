/-! To say what is typed: both sides. -/
section O20
variable {g : Gm} {σ σ1 : cS} {τ τ1 : mS}
theorem say44 {c : Nat} (hc : c < 128) : fc_X11_say_44 σ (nI c) = some (.inr (nI c), uI σ 1 0 3 0) := by
  unfold fc_X11_say_44
  exact if_neg (fun h => h (ch128 c hc))
theorem say186 {c : Nat} (hc : c < 128) : fm_say_186 τ (nI c) = some (nI c, mI τ 2 0) := by
  unfold fm_say_186
  exact if_pos (ch128 c hc)
/-- an answer behind which what is typed is gone -/
theorem Alk.said {ex : List Nat} {c : Nat} {f : Option ((Nat ⊕ Int32) × cS)} {m : Option (Int32 × mS)} {g' : Gm} (hok : Gm.ok g') (hC : CR σ1 g') (hM : MR τ1 g') (h0 : τ1.1 0 = nI 0) (hc : c < 128) (hf : f = fc_X11_say_44 σ1 (nI c)) (hm : m = fm_say_186 τ1 (nI c)) : Alk ex g f m := by
  rw [say44 hc] at hf
  rw [say186 hc] at hm
  exact ⟨(g'.w, [], g'.t, g'.p), _, _, _, _, hf, hm, by rw [mI_ne _ _ (by decide), h0]; exact Agr.v, Rel.clear ⟨hok, hC, hM⟩⟩
theorem say23_no {x : Nat} {c : Nat} (hc : c < 128) (h : c ≠ 111) : fc_X11_say_23 σ (some x) (nI c) = fc_X11_say_44 σ (nI c) := by
  unfold fc_X11_say_23
  rw [if_neg (fun z => by cases z), if_neg (show ¬ nI c = (111 : Int32) from fun z => h ((jEq (b := 111) (by omega) (by omega)).mp z))]
theorem say122_no {c : Nat} (hc : c < 128) (h : c ≠ 111) : fm_say_122 τ (nI c) = fm_say_186 τ (nI c) := by
  unfold fm_say_122
  rw [if_neg (show ¬ nI c = (111 : Int32) from fun z => h ((jEq (b := 111) (by omega) (by omega)).mp z))]
theorem meth_say (hR : Rel g σ τ) : Alk [2] g (fc_X11_say σ) (fm_say τ) := by
  obtain ⟨hok, hCR, hMR⟩ := id hR
  obtain ⟨k1, k2, k3, hp, k5, k6⟩ := id hok
  obtain ⟨r1, r2, r3, hC, r5, r6, r7, s0, r8⟩ := id hCR
  obtain ⟨m1, m2, m3, m4, m5, hM⟩ := id hMR
  have hMR0 := mr0 hMR
  obtain ⟨n1', n2, n3, n4, n5, n6'⟩ := id hMR0
  have h80 := k3.1.1
  have z16 : (0 : Int32).toUInt32.toUInt16.toUInt32.toInt32 = 0 := by decide
  unfold fc_X11_say fm_say
  rw [fc_needPlay_s r3 h80, xb_ifN, begun_if m3]
  refine Alk.ite (fun z => ?_) (fun z => ?_)
  · refine Alk.x (c := 2) (j := 0) (v := 0) hR rfl ?_ rfl
    unfold fm_say_13
    rw [show fm_isWrong τ 1 = fm_isWrong τ (nI 1) from rfl, wrong_s τ (by omega) (by omega)]
    refine (if_neg nz1).trans ?_
    exact if_pos z16
  have h0 : 0 < g.t.N := by omega
  have hn := k3.1.2.1 h0
  have hst := (k3.2.2.1 _ hn).1
  obtain ⟨σ1, u1, u2, u3, u4⟩ := fc_understood_s k1 r1 k2 r2 r6 r7
  have hC1 : CR σ1 g := hCR.fr u3 (fun q hq => by
    simp at hq
    rcases hq with rfl | rfl
    · exact Or.inr (Or.inr (Or.inl rfl))
    · exact Or.inr (Or.inr (Or.inr (Or.inl rfl)))) (fun k h8 _ _ => by rw [u4, if_neg (fun z => h8 z.1)]) ⟨s0, r8.fr u3 (by simp [cSc])⟩ (r5.2.fr r6 u3 (by decide))
  obtain ⟨τ1, v1, v2, v3⟩ := fm_verb_s k2 n2
  have hM1 : MR τ1 g := hMR0.fr v3 (by decide)
  obtain ⟨τ2, t1, t2, t3, t4⟩ := fm_takesUp_s k1 hM1.1 (show g.t.now < 80 by omega) (hM1.2.2.1.2 _ hn).2.2
  have hM2 : MR τ2 g := hM1.fr t4 (by decide)
  have e20 : τ2.1 0 = nI 0 := by rw [(t4 0 (by decide)).1, (v3 0 (by decide)).1]; exact mI_at _ _ _
  have hRc : MRc τ2 (sCuts g.l) := ⟨by rw [(t4 42 (by decide)).1]; exact v2.1, fun j p hj => by rw [(t4 40 (by decide)).2.2.1, (t4 41 (by decide)).2.2.1]; exact v2.2 j p hj⟩
  have em : fm_say_13 τ 0 = if nI (sVerb g.l) = (9 : Int32) then fm_say_54 τ2 (nI (sVerb g.l)) (111 : Int32) else if nI (sVerb g.l) ≤ (1 : Int32) then fm_say_62 τ2 (nI (sVerb g.l)) (111 : Int32) else if (9 : Int32) ≤ nI (sVerb g.l) then fm_say_62 τ2 (nI (sVerb g.l)) (111 : Int32) else fm_say_54 τ2 (nI (sVerb g.l)) (111 : Int32) := by
    unfold fm_say_13
    rw [show fm_isWrong τ 0 = fm_isWrong τ (nI 0) from rfl, right_s]
    show (if nI 0 = 0 then (fm_verb (mI τ 0 (nI 0))).bind _ else _) = _
    rw [if_pos (show nI 0 = 0 from rfl), v1, Option.bind_some]
    show (fm_takesUp τ1 (τ1.1 34)).bind _ = _
    rw [hM1.2.2.1.1.2.1, t1, Option.bind_some]
  rw [u1, Option.bind_some, em]
  by_cases hv : sVerb g.l = 0
  · have hu : sUnd g.w g.l = none := if_pos hv
    rw [hu, hv, if_neg (show ¬ nI 0 = (9 : Int32) by decide), if_pos (show nI 0 ≤ (1 : Int32) by decide)]
    refine Alk.said (c := 63) (g' := g) hok hC1 hM2 e20 (by omega) ?_ ?_
    · show (if (none : Option Nat) = none then fc_X11_say_23 σ1 none 63 else _) = _
      rw [if_pos rfl]
      unfold fc_X11_say_23
      rw [if_pos rfl]
      rfl
    · unfold fm_say_62 fm_say_63 fm_say_79
      rw [if_neg (show ¬ nI 0 = (9 : Int32) by decide), if_pos (show nI 0 = (0 : Int32) from rfl)]
      exact say122_no (c := 63) (by omega) (by omega)
  · obtain ⟨q, hq⟩ : ∃ q, q = sCmd g.w g.l (sVerb g.l) := ⟨_, rfl⟩
    have hu : sUnd g.w g.l = some q := by rw [hq]; exact if_neg hv
    have hun : unQ q := by rw [hq]; exact sCmd_un k1 hv
    have hc := u2 q hu
    have hKW : ∀ k, sHas (sKn g.t g.t.now) k = true → k < g.w.W := fun k hk => by
      refine Nat.lt_of_not_le (fun h => ?_)
      rw [wset_has (sKn_wset k3 hn) h] at hk
      cases hk
    obtain ⟨s1, h61⟩ := hC1.2.2.2.2.2.2.2
    obtain ⟨σ2, s', w1, w2, w3, w4, w5⟩ := fc_tried_s k1 hC1.1 k3 hC1.2.2.1 hC1.2.2.2.2.2.1 h0 hc hun hKW h61
    have hC2 : CR σ2 g := hC1.sc w4 w5 w2
    have ht := fm_try_s k1 hM2.1 hst t2 k3 hM2.2.2.1 h0 k2 hM2.2.1 hRc t3 hv g.p.te
    rw [← hq] at ht
    obtain ⟨τ3, y1, y2, y3⟩ := ht
    have hM3 : MR τ3 g := hM2.fr y3 (by decide)
    have e30 : τ3.1 0 = nI 0 := by rw [(y3 0 (by decide)).1]; exact e20
    rw [y1, hu]
    show Alk [2] g (if (some (cn σ 8) : Option Nat) = none then _ else (fc_X11_tried σ1 (some (cn σ 8))).bind _) _
    rw [if_neg (fun z => by cases z), w1, Option.bind_some]
    show Alk [2] g (fc_X11_say_23 σ2 (some (cn σ 8)) (nI (sTry g.w (sKn g.t g.t.now) (g.t.st g.t.now) q).1)) _
    have other : ∀ c, c < 128 → c ≠ 111 → (sTry g.w (sKn g.t g.t.now) (g.t.st g.t.now) q).1 = c → Alk [2] g (fc_X11_say_23 σ2 (some (cn σ 8)) (nI (sTry g.w (sKn g.t g.t.now) (g.t.st g.t.now) q).1)) (fm_say_122 τ3 (nI (sTry g.w (sKn g.t g.t.now) (g.t.st g.t.now) q).1)) := fun c h1 h2 h3 => by
      rw [h3, say23_no h1 h2, say122_no h1 h2]
      exact Alk.said (c := c) (g' := g) hok hC2 hM3 e30 h1 rfl rfl
    by_cases hk : sKnw (sKn g.t g.t.now) q = true
    · cases hd : sDo g.w (g.t.st g.t.now) q with
      | none => exact other 110 (by omega) (by omega) (by unfold sTry; rw [if_pos hk, hd])
      | some s2 =>
        have hty : sTry g.w (sKn g.t g.t.now) (g.t.st g.t.now) q = (111, some s2) := by unfold sTry; rw [if_pos hk, hd]
        rw [hty] at y1 y2 w1 w3 ⊢
        have es : s' = s2 := w3 s2 rfl
        rw [es] at w2
        obtain ⟨z1, z2⟩ := y2 s2 rfl
        have htq := unQ_ok hun hk hKW
        have hcm : cmQ g.w q := Or.inl htq
        have hlt := tyQ_lt htq
        have htx : sText g.w q = g.l := (sText_of k1 hu (fun hh => by
          unfold sKnw at hk
          rw [if_pos hh] at hk
          intro e
          rw [e] at hk
          simp at hk) (fun hh => by
          unfold sKnw at hk
          rw [if_pos (show 2 ≤ q.1 ∧ q.1 ≤ 9 by omega), if_pos hh] at hk
          intro e
          rw [e] at hk
          simp at hk)).1
        have hch := fm_child_said k1 k3 hM3.2.2.1 h0 k2 hM3.2.1 hM3.2.2.2.1 htq htx
        have hs2 : St.ok g.w s2 := sDo_ok k1 hst hd
        have hrp : rplQ g.w g.t s2 q := ⟨fun _ => ⟨hk, hd⟩, fun z => by omega, fun z => by omega⟩
        have hc2 : RCm σ2 (cn σ 8) q := hc.fr w4 (by simp [cSc])
        unfold fc_X11_say_23 fm_say_122 fm_say_156
        rw [if_neg (fun z => by cases z), if_pos (show nI 111 = (111 : Int32) from rfl), if_pos (show nI 111 = (111 : Int32) from rfl), hch, Option.bind_some, fc_needNode_s k1 k3 hC2.2.2.1 (fun n a b => (k5 n a b).1) hC2.2.2.2.2.2.2.1 h0 hcm hc2, xb_ifN]
        have go : ¬ (g.t.N = 80 ∧ sChd g.t q = none) → Alk [2] g ((fc_X11_follow σ2 (some (cn σ 8))).bind fun r_2 => fc_X11_say_44 r_2 (nI 111)) (fm_say_157 τ3 (nI 111) (oI (sChd g.t q)) 0) := by
          intro hfull
          have hN : sChd g.t q = none → g.t.N < 80 := fun e => by
            have : ¬ g.t.N = 80 := fun z => hfull ⟨z, e⟩
            omega
          obtain ⟨σ4, d1, d2, -⟩ := CR.fol hC2 h0 hok hcm (fun h12 _ => by omega) hc2 hs2 w2 hN
          rw [d1, Option.bind_some]
          have hok' := hok.fol (s := s2) h0 hN hcm (fun h12 _ => by omega) hrp (by omega)
          have hM4 : MR (mI τ3 0 (nI 0)) g := hM3.th _
          unfold fm_say_157
          rw [show fm_isWrong τ3 0 = fm_isWrong τ3 (nI 0) from rfl, right_s]
          cases e : sChd g.t q with
          | none =>
            have ha2 : MSt (mI τ3 0 (nI 0)) g.w.T s2 := z1.fr (ks := [0]) (mFr.I (by decide)) (by decide)
            obtain ⟨τ4, x1, x2, x3, x4, -⟩ := MR.come (s := s2) (q := q) hM4 h0 hok ha2 hs2 (hN e) hcm (fun _ => htx) z2 e
            have hk0 : kdQ q.1 = 0 := if_pos hlt
            rw [hk0, if_pos hlt] at x1
            refine Alk.said (c := 111) hok' d2 x2 ?_ (by omega) rfl ?_
            · rw [(x3 0 (by decide)).1]; exact mI_at _ _ _
            · show (if nI 0 = 0 then (if oI none = (-1 : Int32) then (fm_comes (mI τ3 0 (nI 0)) (nI 0) (nI 0)).bind _ else _) else _) = _
              rw [if_pos (show nI 0 = 0 from rfl), if_pos (show oI none = (-1 : Int32) from rfl), x1, Option.bind_some]
          | some n =>
            have hnn := sChd_lt h0 e
            refine Alk.said (c := 111) hok' d2 (hM4.went e) ?_ (by omega) rfl ?_
            · rw [mI_ne _ _ (by decide)]; exact mI_at _ _ _
            · show (if nI 0 = 0 then (if oI (some n) = (-1 : Int32) then _ else fm_say_186 (mI (mI τ3 0 (nI 0)) 34 (oI (some n))) (nI 111)) else _) = _
              rw [if_pos (show nI 0 = 0 from rfl), if_neg (show ¬ oI (some n) = (-1 : Int32) from fun z => (jM1 (a := n) (by omega)).mp z)]
              rfl
        cases e : sChd g.t q with
        | none =>
          rw [e] at go
          rw [if_pos (show oI none = (-1 : Int32) from rfl), hM3.2.2.1.1.1]
          by_cases zf : g.t.N = 80
          · rw [if_pos ⟨zf, rfl⟩, if_pos (show nI g.t.N = (80 : Int32) by rw [zf]; rfl)]
            refine Alk.x' (c := 2) (j := 0) (v := 0) (τ2 := mI τ3 0 (nI 1)) hok hC2 (hM3.th _) rfl ?_ (mI_at _ _ _) rfl
            unfold fm_say_157
            rw [show fm_isWrong τ3 1 = fm_isWrong τ3 (nI 1) from rfl, wrong_s _ (by omega) (by omega)]
            refine (if_neg nz1).trans ?_
            exact if_pos z16
          · rw [if_neg (fun z => zf z.1), if_neg (show ¬ nI g.t.N = (80 : Int32) from fun z => zf ((jEq (b := 80) (by omega) (by omega)).mp z))]
            exact go (fun z => zf z.1)
        | some n =>
          rw [e] at go
          have hnn := sChd_lt h0 e
          rw [if_neg (fun z => by cases z.2), if_neg (show ¬ oI (some n) = (-1 : Int32) from fun z => (jM1 (a := n) (by omega)).mp z)]
          exact go (fun z => by cases z.2)
    · exact other 119 (by omega) (by omega) (by unfold sTry; rw [if_neg hk])
end O20
