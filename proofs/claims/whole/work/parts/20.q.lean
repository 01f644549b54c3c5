/-! To buy: the call. -/
section Q20
variable {g : Gm} {σ σ1 : cS} {τ τ1 : mS}
theorem meth_buy (hR : Rel g σ τ) (v : Int32) : Alk [4, 2, 3, 5] g (fc_X11_buy σ v) (fm_buy τ v) := by
  obtain ⟨hok, hCR, hMR⟩ := id hR
  obtain ⟨k1, k2, k3, hp, k5, k6⟩ := id hok
  obtain ⟨r1, r2, r3, hC, r5, r6, r7, s0, r8⟩ := id hCR
  obtain ⟨m1, m2, m3, m4, m5, hM⟩ := id hMR
  have hMR0 := mr0 hMR
  obtain ⟨n1', n2, n3, n4, n5, n6'⟩ := id hMR0
  have h80 := k3.1.1
  have bad : ∀ k, 0 < k → k < 1000 → fm_buy_34 τ v (nI k) = some (0, mI τ 0 (nI k)) := fun k h1 h2 => by
    unfold fm_buy_34
    rw [wrong_s τ (by omega) h1]
    exact if_neg nz1
  have bad2 : ∀ k, 0 < k → k < 1000 → fm_buy_96 (mI τ 0 (nI 0)) v (nI k) = some (0, mI τ 0 (nI k)) := fun k h1 h2 => by
    unfold fm_buy_96
    rw [wrong_s _ (by omega) h1, mI_twice]
    exact if_neg nz1
  unfold fc_X11_buy fm_buy fm_buy_29
  rw [fc_needHint_s hp hC, xb_if, fm_isHint_s hp hM, Option.bind_some, bI_if]
  refine Alk.ite (fun qx => ?_) fun _ => Alk.x (c := 4) (j := 0) (v := 0) hR rfl (bad 1 (by omega) (by omega)) rfl
  show Alk [4, 2, 3, 5] g (xb (fc_X11_needPlay σ) _) (if τ.1 20 = 0 then _ else _)
  rw [fc_needPlay_s r3 h80, xb_ifN, begun_if m3]
  refine Alk.ite (fun z => Alk.x (c := 2) (j := 1) (v := 0) hR rfl (bad 2 (by omega) (by omega)) rfl) fun z => ?_
  have h0 : 0 < g.t.N := by omega
  have hn := k3.1.2.1 h0
  have hst := (k3.2.2.1 _ hn).1
  have h12 := hp.1.1
  have hSN := hp.1.2
  obtain ⟨h, rfl, hh⟩ := vIn_ex (by omega) qx
  have i12 : ¬ (nI h < 0 ∨ 12 ≤ (nI h).toNatClampNeg) := iN0 (show h < 12 by omega) (by omega)
  have i12c : ¬ (nI h < 0 ∨ 12 ≤ h) := iN1 (show h < 12 by omega) (by omega)
  show Alk [4, 2, 3, 5] g ((fc_X8_isFull σ).bind _) (if τ.1 33 = (80 : Int32) then fm_buy_34 τ (nI h) 2 else fm_buy_34 τ (nI h) 0)
  rw [fc_isFull_s r3 h80, Option.bind_some, m3.1.1]
  by_cases zf : g.t.N = 80
  · rw [if_pos (show nI g.t.N = (80 : Int32) by rw [zf]; rfl)]
    refine Alk.x (c := 2) (j := 1) (v := 0) hR ?_ (bad 2 (by omega) (by omega)) rfl
    show (if bI (decide (g.t.N = 80)) = 0 then _ else _) = _
    rw [bI_if, if_pos (decide_eq_true zf)]
  have hN : g.t.N < 80 := by omega
  rw [if_neg (show ¬ nI g.t.N = (80 : Int32) from fun z => zf ((jEq (b := 80) (by omega) (by omega)).mp z))]
  show Alk [4, 2, 3, 5] g (if bI (decide (g.t.N = 80)) = 0 then xb (fc_X11_needNotOwned σ (nI h)) _ else _) _
  rw [bI_if, if_neg (show ¬ decide (g.t.N = 80) = true by rw [decide_eq_true_iff]; exact zf), fc_notOwned_s k3 r3 h0 hp hC (by omega), xb_ifN]
  obtain ⟨X, hX⟩ : ∃ X, X = g.p.te h &&& (sKn g.t g.t.now ^^^ (-1 : Int64)) := ⟨_, rfl⟩
  have e34 : fm_buy_34 τ (nI h) 0 = if sOwn g.t g.p 0 g.p.S h = true then fm_buy_96 (mI τ 0 (nI 0)) (nI h) 3 else if X = 0 then fm_buy_96 (mI τ 0 (nI 0)) (nI h) 3 else if sPrice g.t g.p h ≤ g.p.co then fm_buy_96 (mI τ 0 (nI 0)) (nI h) 0 else fm_buy_96 (mI τ 0 (nI 0)) (nI h) 4 := by
    unfold fm_buy_34 fm_buy_75
    rw [show fm_isWrong τ 0 = fm_isWrong τ (nI 0) from rfl, right_s]
    show (if nI 0 = 0 then (fm_isOwnedNow_4 3000 (mI τ 0 (nI 0)) (nI h) (bI false) (nI 0)).bind _ else _) = _
    rw [if_pos (show nI 0 = 0 from rfl), fm_owned_l k3 n3 h0 hp n6' (h := h) (by omega) g.p.S 0 false 3000 (by omega) (by omega), Option.bind_some, Bool.false_or, bI_if]
    by_cases zo : sOwn g.t g.p 0 g.p.S h = true
    · rw [if_pos zo, if_pos zo]
    · rw [if_neg zo, if_neg zo]
      show (if nI h < 0 ∨ 12 ≤ (nI h).toNatClampNeg then none else (fm_knownAt (mI τ 0 (nI 0)) ((mI τ 0 (nI 0)).1 34)).bind _) = _
      rw [if_neg i12, n3.1.2.1, fm_knownAt_s k3 n3 hn, Option.bind_some]
      show (if lg_cmp ((mI τ 0 (nI 0)).2.2.2 44 (nI h).toNatClampNeg &&& (sKn g.t g.t.now ^^^ (-1 : Int64))) 0 = 0 then _ else (fm_priceNow (mI τ 0 (nI 0)) (nI h)).bind _) = _
      rw [jCl (by omega), n6'.2.2.1 h (by omega), ← hX, fm_price_s k3 n3 h0 hp n6' hh, Option.bind_some]
      by_cases zx : X = 0
      · rw [if_pos (lg0.mpr zx), if_pos zx]
      · rw [if_neg (fun z => zx (lg0.mp z)), if_neg zx]
        show (if sPrice g.t g.p h ≤ (mI τ 0 (nI 0)).1 46 then _ else _) = _
        rw [n6'.1.2.1]
  rw [e34]
  refine Alk.ite (fun zo => Alk.x (c := 3) (j := 2) (v := 0) hR rfl (bad2 3 (by omega) (by omega)) rfl) fun zo => ?_
  rw [fc_current_s k3 r3 h0, Option.bind_some]
  show Alk [4, 2, 3, 5] g (if nI h < 0 ∨ 12 ≤ (nI h).toNatClampNeg then none else (dr σ 7 (some g.t.now)).bind _) _
  rw [if_neg i12, r3.dn hn, Option.bind_some, fc_wordsOfPath_s k3 r3 hn, Option.bind_some, jCl (by omega), hC.2.2.1 h (by omega), ← hX]
  by_cases zx : X = 0
  · rw [if_pos (lg0.mpr zx), if_pos zx]
    exact Alk.x (c := 3) (j := 2) (v := 0) hR rfl (bad2 3 (by omega) (by omega)) rfl
  rw [if_neg (fun z => zx (lg0.mp z)), if_neg zx]
  show Alk [4, 2, 3, 5] g ((fc_X8_current σ).bind _) _
  rw [fc_current_s k3 r3 h0, Option.bind_some]
  show Alk [4, 2, 3, 5] g ((fc_X5_priceAt σ (nI h) (some g.t.now)).bind _) _
  rw [fc_price_s k3 r3 h0 hp hC k1 hh, Option.bind_some]
  show Alk [4, 2, 3, 5] g (if sPrice g.t g.p h ≤ cI σ 5 0 4 then (fc_X8_current σ).bind _ else _) _
  rw [hC.1.2.1]
  refine Alk.ite (fun zc => ?_) fun _ => Alk.x (c := 5) (j := 3) (v := 0) hR rfl (bad2 4 (by omega) (by omega)) rfl
  rw [fc_current_s k3 r3 h0, Option.bind_some]
  obtain ⟨dc, σ1, c1, c2, c3, c4⟩ := copyHere hCR h0 hok
  show Alk [4, 2, 3, 5] g ((dr σ 7 (some g.t.now)).bind _) _
  rw [dc, Option.bind_some]
  show Alk [4, 2, 3, 5] g ((fc_X6_copy σ (some 0) (cR σ 7 g.t.now 3)).bind _) _
  rw [c1, Option.bind_some]
  obtain ⟨q, hq⟩ : ∃ q : Cm, q = (12, some h, none) := ⟨_, rfl⟩
  have hq1 : q.1 = 12 := by rw [hq]
  have hcm : cmQ g.w q := Or.inr ⟨12, h, by omega, by omega, by omega, hq⟩
  have hno : sChd g.t q = none := by
    cases e : sChd g.t q with
    | none => rfl
    | some n =>
      exfalso
      have hnn := sChd_lt h0 e
      have hn1 : 0 < n := by
        have := List.mem_of_find?_eq_some e
        rw [List.mem_range'_1] at this
        omega
      have ef := List.find?_some e
      obtain ⟨p1, p2⟩ := of_decide_eq_true ef
      obtain ⟨i, x1, x2, x3⟩ := hp.2.2.2.2.2.1 n hn1 hnn (by rw [p2]; exact hq1)
      rw [p2, hq] at x3
      have hsh : g.p.sh i = h := by
        have := congrArg (fun q : Cm => q.2.1) x3
        exact (Option.some.inj this).symm
      obtain ⟨o1, o2⟩ := owned_no zo x1 hsh
      have : sOnP g.t g.t.now (g.p.sn i) = true := by
        rw [x2]
        unfold sOnP
        rw [sPath_s k3 hnn, if_neg (by omega), p1, List.contains_iff_mem]
        exact List.mem_cons_of_mem _ (self_mem k3 hn)
      rw [this] at o2
      cases o2
  obtain ⟨dr1, σ2, e1, e2, e3, e3'⟩ := newCm c3 (v := 12) (a := nI h) (x := some h) (by omega) rfl
  rw [← hq] at e2
  rw [dr1, Option.bind_some, e1, Option.bind_some]
  have hrp : rplQ g.w g.t (g.t.st g.t.now) q := ⟨fun z => by omega, fun _ => rfl, fun z => by omega⟩
  have h6 : RSt σ2 0 (g.t.st g.t.now) := c2.fr (e3' []) (fun q hq => absurd hq (List.not_mem_nil))
  obtain ⟨σ3, d1, d2, -⟩ := CR.fol e3 h0 hok hcm (fun _ _ b hb => by rw [hq] at hb; cases hb; omega) e2 hst h6 (fun _ => hN)
  rw [d1, Option.bind_some]
  obtain ⟨t', ht'⟩ : ∃ t', t' = sFol g.w g.p.te g.t (g.t.st g.t.now) q := ⟨_, rfl⟩
  have et : t' = tAdd g.t (sBurn g.w (g.t.st g.t.now)) (sShown g.w (sBurn g.w (g.t.st g.t.now)) ||| sBes g.w g.p.te q) q := by rw [ht', sFol_none hno]
  rw [← ht'] at d2
  have tN : t'.N = g.t.N + 1 := by rw [et]; rfl
  have tn : t'.now = g.t.N := by rw [et]; rfl
  obtain ⟨d21, d22, d23, ⟨⟨f1, f2, f3, f4, f5⟩, f6⟩, d25⟩ := id d2
  have f2 : cI σ3 5 0 4 = g.p.co := f2
  have f5 : cn σ3 9 = g.p.S := f5
  rw [f2]
  show Alk [4, 2, 3, 5] g ((fc_X8_current (uN (uI σ3 5 0 4 (g.p.co - sPrice g.t g.p h)) 9 0 0)).bind _) _
  obtain ⟨σ7, σ8, s1, s2, s3⟩ := CR.sell (g := (g.w, g.l, t', g.p)) d2 (show g.p.S < 80 by omega) (n := g.t.N) (show g.t.N < t'.N by omega) (sPrice g.t g.p h) h
  have s1 : fc_X4_init (uN (uI σ3 5 0 4 (g.p.co - sPrice g.t g.p h)) 9 0 0) (some g.p.S) (nI h) (some g.t.N) (sPrice g.t g.p h) = some σ7 := s1
  have s2 : fc_Jx4a65c_add_9ea2d σ7 (some 1) (some g.p.S) 9 = some (1, σ8) := s2
  have ecur : fc_X8_current (uN (uI σ3 5 0 4 (g.p.co - sPrice g.t g.p h)) 9 0 0) = some (some g.t.N, uN (uI σ3 5 0 4 (g.p.co - sPrice g.t g.p h)) 9 0 0) := by
    have F : cFr [(5, 0)] σ3 (uN (uI σ3 5 0 4 (g.p.co - sPrice g.t g.p h)) 9 0 0) := (cFr.I (by simp)).tr cFr.N
    refine fc_current_g (n := t'.N) (d23.1.2.1.fr F (by simp) (fun e _ => by simp)).1 ?_ (by omega) (by omega) ?_
    · rw [((F.2 4 0 (Nat.lt_of_lt_of_le (by decide) (d25.2.1 4 (by decide)))).2.2 (by simp)).1, d23.1.1, show (Gm.t (g.w, g.l, t', g.p)).now = g.t.N from tn]
    · refine Nat.lt_of_lt_of_le ?_ (F.1 7)
      rw [show cn σ3 7 = t'.N from d23.1.2.2.1]
      omega
  rw [ecur, Option.bind_some]
  show Alk [4, 2, 3, 5] g ((dr (uN (uI σ3 5 0 4 (g.p.co - sPrice g.t g.p h)) 9 0 0) 9 (some (cn σ3 9))).bind fun i_24 => (fc_X4_init (uN (uI σ3 5 0 4 (g.p.co - sPrice g.t g.p h)) 9 0 0) (some (cn σ3 9)) (nI h) (some g.t.N) (sPrice g.t g.p h)).bind fun r_23 => (fc_Jx4a65c_add_9ea2d r_23 (some 1) (some (cn σ3 9)) 9).bind fun r_25 => some (Sum.inr (cI r_25.2 4 0 2), r_25.2)) _
  rw [f5, dr_mk (show g.p.S < cn (uN (uI σ3 5 0 4 (g.p.co - sPrice g.t g.p h)) 9 0 0) 9 by
    show g.p.S < (if 9 = 9 then cn σ3 9 + 1 else cn σ3 9)
    rw [if_pos rfl, f5]
    omega), Option.bind_some, s1, Option.bind_some, s2, Option.bind_some]
  have ans : cI σ8 4 0 2 = nI g.t.N := by rw [s3.2.2.1.1.1]; exact congrArg nI tn
  -- the reference
  obtain ⟨τa, hτa⟩ : ∃ τa, τa = mI (mI τ 0 (nI 0)) 46 (g.p.co - sPrice g.t g.p h) := ⟨_, rfl⟩
  have M5 : MR5 (mI τ 0 (nI 0)) g.w g.l g.t := ⟨n1', n2, n3, n4, n5⟩
  have fa : mFr [46] (mI τ 0 (nI 0)) τa := by rw [hτa]; exact mFr.I (by decide)
  have Ma : MR5 τa g.w g.l g.t := M5.fr fa (by decide)
  obtain ⟨τ2, t1, t2, t3, t4⟩ := fm_takesUp_s k1 Ma.1 (show g.t.now < 80 by omega) (Ma.2.2.1.2 _ hn).2.2
  have M2 : MR5 (mJ τ2 39 (g.p.te h)) g.w g.l g.t := (Ma.fr t4 (by decide)).fr (mFr.J (k := 39) (List.mem_singleton.mpr rfl)) (by decide)
  have hsb : sBes g.w g.p.te q = g.p.te h := by rw [hq]; rfl
  obtain ⟨τ4, y1, y2, y3, y4, y5⟩ := come0 (q := q) (s := g.t.st g.t.now) M2 h0 hok t2 hst hN hcm (fun z => by omega) (by rw [hsb]; rfl) hno
  have hk : kdQ q.1 = 1 := by rw [hq1]; rfl
  rw [hk, if_neg (by omega), show oI q.2.1 = nI h by rw [hq]; rfl] at y1
  rw [← ht'] at y2
  have F4 : ∀ k, k ∉ fCm → k ∉ ([0, 35, 36, 37, 38, 39, 46] : List Nat) → τ4.1 k = τ.1 k ∧ τ4.2.1 k = τ.2.1 k ∧ τ4.2.2.1 k = τ.2.2.1 k ∧ τ4.2.2.2 k = τ.2.2.2 k := fun k hk1 hk2 => by
    obtain ⟨a1, a2, a3, a4⟩ := y3 k hk1
    obtain ⟨b1, b2, b3, b4⟩ := (mFr.J (σ := τ2) (v := g.p.te h) (ks := [39]) (List.mem_singleton.mpr rfl) : mFr [39] τ2 (mJ τ2 39 (g.p.te h))) k (fun z => hk2 (by simp at z; rw [z]; decide))
    obtain ⟨c1, c2, c3, c4⟩ := t4 k (fun z => hk2 (by simp at z; rcases z with rfl | rfl | rfl | rfl | rfl <;> decide))
    obtain ⟨d1, d2, d3, d4⟩ := fa k (fun z => hk2 (by simp at z; rw [z]; decide))
    obtain ⟨e1, e2, e3, e4⟩ := (mFr.I (σ := τ) (v := nI 0) (ks := [0]) (List.mem_singleton.mpr rfl) : mFr [0] τ (mI τ 0 (nI 0))) k (fun z => hk2 (by simp at z; rw [z]; decide))
    exact ⟨(a1.trans b1).trans (c1.trans (d1.trans e1)), (a2.trans b2).trans (c2.trans (d2.trans e2)), (a3.trans b3).trans (c3.trans (d3.trans e3)), (a4.trans b4).trans (c4.trans (d4.trans e4))⟩
  have e46 : τ4.1 46 = g.p.co - sPrice g.t g.p h := by
    rw [(y3 46 (by decide)).1]
    show τ2.1 46 = _
    rw [(t4 46 (by decide)).1, hτa, mI_at]
  have e00 : τ4.1 0 = nI 0 := by
    rw [(y3 0 (by decide)).1]
    show τ2.1 0 = _
    rw [(t4 0 (by decide)).1, (fa 0 (by decide)).1]
    exact mI_at _ _ _
  have e49 : τ4.1 49 = nI g.p.S := by rw [(F4 49 (by decide) (by decide)).1]; exact hM.1.2.2
  obtain ⟨τ5, hτ5⟩ : ∃ τ5, τ5 = mI (mA (mA (mA τ4 32 g.t.N (nI h)) 47 g.p.S (nI g.t.N)) 48 g.p.S (sPrice g.t g.p h)) 49 (nI (g.p.S + 1)) := ⟨_, rfl⟩
  have f5' : mFr [32, 47, 48, 49] τ4 τ5 := by rw [hτ5]; exact (((mFr.A (by decide)).tr (mFr.A (by decide))).tr (mFr.A (by decide))).tr (mFr.I (by decide))
  have em : fm_buy_96 (mI τ 0 (nI 0)) (nI h) 0 = some (nI g.t.N, τ5) := by
    unfold fm_buy_96
    rw [show fm_isWrong (mI τ 0 (nI 0)) 0 = fm_isWrong (mI τ 0 (nI 0)) (nI 0) from rfl, right_s, mI_twice]
    show (if nI 0 = 0 then (fm_priceNow (mI τ 0 (nI 0)) (nI h)).bind _ else _) = _
    rw [if_pos (show nI 0 = 0 from rfl), fm_price_s k3 n3 h0 hp n6' hh, Option.bind_some]
    show (fm_takesUp (mI (mI τ 0 (nI 0)) 46 ((mI τ 0 (nI 0)).1 46 - sPrice g.t g.p h)) ((mI τ 0 (nI 0)).1 34)).bind _ = _
    rw [n6'.1.2.1, n3.1.2.1, ← hτa, t1, Option.bind_some, if_neg i12, jCl (by omega)]
    have e44 : τ2.2.2.2 44 h = g.p.te h := by
      rw [(t4 44 (by decide)).2.2.2, (fa 44 (by decide)).2.2.2]
      exact n6'.2.2.1 h (by omega)
    rw [e44, show (1 : Int32) = nI 1 from rfl, y1, Option.bind_some]
    have iN : ¬ (nI g.t.N < 0 ∨ 80 ≤ (nI g.t.N).toNatClampNeg) := iN0 hN (by omega)
    have iS : ¬ (nI g.p.S < 0 ∨ 80 ≤ (nI g.p.S).toNatClampNeg) := iN0 (show g.p.S < 80 by omega) (by omega)
    show (if τ4.1 34 < 0 ∨ 80 ≤ (τ4.1 34).toNatClampNeg then none else if τ4.1 49 < 0 ∨ 80 ≤ (τ4.1 49).toNatClampNeg then none else if τ4.1 49 < 0 ∨ 80 ≤ (τ4.1 49).toNatClampNeg then none else some (τ4.1 34, mI (mA (mA (mA τ4 32 (τ4.1 34).toNatClampNeg (nI h)) 47 (τ4.1 49).toNatClampNeg (τ4.1 34)) 48 (τ4.1 49).toNatClampNeg (sPrice g.t g.p h)) 49 (τ4.1 49 + nI 1))) = _
    rw [y4, e49, if_neg iN, if_neg iS, if_neg iS, jCl (by omega), jCl (by omega), jAdd, ← hτ5]
  refine ⟨(g.w, g.l, t', pBuy g.p h g.t.N (sPrice g.t g.p h)), .inr (nI g.t.N), σ8, nI g.t.N, τ5, by rw [ans], em, ?_, ?_, s3, ?_⟩
  · rw [(f5' 0 (by decide)).1, e00]
    exact Agr.v
  · rw [et]
    have hsp : Sp.ok g.w (tAdd g.t (sBurn g.w (g.t.st g.t.now)) (sShown g.w (sBurn g.w (g.t.st g.t.now)) ||| sBes g.w g.p.te q) q) (pBuy g.p h g.t.N (sPrice g.t g.p h)) := by
      rw [hq]
      exact Sp.ok.buy k3 h0 hN hp hh zo
    exact hok.add h0 hN hcm (fun _ _ b hb => by rw [hq] at hb; cases hb; exact hh) (Nat.le_refl _) hrp (wset_or (sShown_wset k1 _) (sBes_wset k1 (fun j => (hp.2.1 j).1) q)) hsp
  · obtain ⟨x1, x2, x3, x4, x5⟩ := y2.fr f5' (by decide)
    refine ⟨x1, x2, x3, x4, x5, ⟨⟨?_, ?_, ?_⟩, ?_, ?_, fun s hs => ?_⟩⟩
    · rw [(f5' 45 (by decide)).1, (F4 45 (by decide) (by decide)).1]; exact hM.1.1
    · rw [(f5' 46 (by decide)).1]; exact e46
    · rw [hτ5]; exact mI_at _ _ _
    · rw [(f5' 43 (by decide)).2.2.1, (F4 43 (by decide) (by decide)).2.2.1]; exact hM.2.1
    · rw [(f5' 44 (by decide)).2.2.2, (F4 44 (by decide) (by decide)).2.2.2]; exact hM.2.2.1
    · have hs : s < g.p.S + 1 := hs
      obtain ⟨e1, e2, e3⟩ := pBuy_e (p := g.p) (h := h) (n := g.t.N) (c := sPrice g.t g.p h) s
      have A47 : ∀ j, τ5.2.2.1 47 j = if j = g.p.S then nI g.t.N else τ.2.2.1 47 j := fun j => by
        rw [hτ5]
        show (mA (mA (mA τ4 32 g.t.N (nI h)) 47 g.p.S (nI g.t.N)) 48 g.p.S (sPrice g.t g.p h)).2.2.1 47 j = _
        rw [mA_ne _ _ _ (by decide), mA_at, mA_ne _ _ _ (by decide), (F4 47 (by decide) (by decide)).2.2.1]
      have A48 : ∀ j, τ5.2.2.1 48 j = if j = g.p.S then sPrice g.t g.p h else τ.2.2.1 48 j := fun j => by
        rw [hτ5]
        show (mA (mA (mA τ4 32 g.t.N (nI h)) 47 g.p.S (nI g.t.N)) 48 g.p.S (sPrice g.t g.p h)).2.2.1 48 j = _
        rw [mA_at, mA_ne _ _ _ (by decide), mA_ne _ _ _ (by decide), (F4 48 (by decide) (by decide)).2.2.1]
      have A32 : ∀ j, j < g.t.N + 1 → τ5.2.2.1 32 j = if j = g.t.N then nI h else τ.2.2.1 32 j := fun j hj => by
        rw [hτ5]
        show (mA (mA (mA τ4 32 g.t.N (nI h)) 47 g.p.S (nI g.t.N)) 48 g.p.S (sPrice g.t g.p h)).2.2.1 32 j = _
        rw [mA_ne _ _ _ (by decide), mA_ne _ _ _ (by decide), mA_at, y5]
        by_cases z : j = g.t.N
        · rw [if_pos z, if_pos z]
        · rw [if_neg z, if_neg z, if_neg z]
          show τ2.2.2.1 32 j = _
          rw [(t4 32 (by decide)).2.2.1, (fa 32 (by decide)).2.2.1]
          rfl
      show τ5.2.2.1 47 s = nI ((pBuy g.p h g.t.N (sPrice g.t g.p h)).sn s) ∧ τ5.2.2.1 48 s = (pBuy g.p h g.t.N (sPrice g.t g.p h)).sc s ∧ τ5.2.2.1 32 ((pBuy g.p h g.t.N (sPrice g.t g.p h)).sn s) = nI ((pBuy g.p h g.t.N (sPrice g.t g.p h)).sh s)
      rw [e1, e2, e3, A47, A48]
      by_cases z : s = g.p.S
      · rw [if_pos z, if_pos z, if_pos z, if_pos z, if_pos z, A32 _ (by omega), if_pos rfl]
        exact ⟨rfl, rfl, rfl⟩
      · rw [if_neg z, if_neg z, if_neg z, if_neg z, if_neg z]
        obtain ⟨z1, z2, z3⟩ := hp.2.2.2.1 s (by omega)
        rw [A32 _ (by omega), if_neg (by omega)]
        exact hM.2.2.2 s (by omega)
end Q20
