/-! The least number of exits to a room: the class's side, and the call. -/
section V20
variable {g : Gm} {σ σ1 : cS} {τ τ1 : mS} {w : Wd} {s : St}
theorem cfar_st {i0 : Nat} {σ' : cS} (hW : CWd σ w) (hL : cLbs σ) (hm : RSt σ i0 s) (hf : cFr [(12, 10)] σ σ') : CWd σ' w ∧ cLbs σ' ∧ RSt σ' i0 s :=
  ⟨hW.fr hL hf (by decide), hL.fr hf, hm.fr hf (fun q hq => by rw [List.mem_singleton] at hq; rw [hq]; unfold cSc; simp; omega)⟩
theorem fc_edge_l (hw : Wd.ok w) (hs : St.ok w s) {K2 : cS → Option Nat → Int32 → Int32 → Option cS} {i0 i r : Nat} (hi : i < 12) (hr : r < w.R) : ∀ (e d n : Nat) (σ : cS) (F : Fs), d + e = 6 → e < n → CWd σ w → cLbs σ → RSt σ i0 s → CFar σ F → Fb F → F r = some i → ∃ σ', fc_X3_goFurther_16 K2 n σ (some i0) (nI i) (nI r) (nI d) = fc_X3_goFurther_76 K2 σ' (some i0) (nI i) (nI r) ∧ CFar σ' (sEdges w s i r e d F) ∧ cFr [(12, 10)] σ σ' ∧ cn σ' = cn σ := by
  have hR := hw.1.2.1
  intro e
  induction e with
  | zero =>
    intro d n σ F hd hn hW hL hm hF hb h0
    obtain ⟨n, rfl⟩ : ∃ m, n = m + 1 := ⟨n - 1, by omega⟩
    refine ⟨σ, ?_, hF, cFr.rf _ _, rfl⟩
    rw [show fc_X3_goFurther_16 K2 (n + 1) σ (some i0) (nI i) (nI r) (nI d) = if (6 : Int32) ≤ nI d then fc_X3_goFurther_76 K2 σ (some i0) (nI i) (nI r) else _ from rfl]
    exact if_pos (show (6 : Int32) ≤ nI d by rw [show d = 6 by omega]; decide)
  | succ e ih =>
    intro d n σ F hd hn hW hL hm hF hb h0
    obtain ⟨n, rfl⟩ : ∃ m, n = m + 1 := ⟨n - 1, by omega⟩
    have go : ∀ (σ2 : cS) (F2 : Fs), F2 = sEdge w s i r d F → CFar σ2 F2 → cFr [(12, 10)] σ σ2 → cn σ2 = cn σ → ∃ σ', fc_X3_goFurther_70 K2 (fc_X3_goFurther_16 K2 n) σ2 (some i0) (nI i) (nI r) (nI d) = fc_X3_goFurther_76 K2 σ' (some i0) (nI i) (nI r) ∧ CFar σ' (sEdges w s i r (e + 1) d F) ∧ cFr [(12, 10)] σ σ' ∧ cn σ' = cn σ := by
      intro σ2 F2 e2 hF2 hf2 hc2
      unfold fc_X3_goFurther_70
      rw [n1, jAdd]
      obtain ⟨x1, x2, x3⟩ := cfar_st hW hL hm hf2
      obtain ⟨σ', a1, a2, a3, a4⟩ := ih (d + 1) n σ2 F2 (by omega) (by omega) x1 x2 x3 hF2 (by rw [e2]; exact sEdge_b hi r d hb) (by rw [e2]; exact sEdge_le i r d F r i h0)
      refine ⟨σ', a1, ?_, hf2.tr a3, a4.trans hc2⟩
      show CFar σ' (sEdges w s i r e (d + 1) (sEdge w s i r d F))
      rw [← e2]
      exact a2
    rw [show fc_X3_goFurther_16 K2 (n + 1) σ (some i0) (nI i) (nI r) (nI d) = if (6 : Int32) ≤ nI d then _ else if nI r < 0 ∨ 12 ≤ (nI r).toNatClampNeg then none else if (cI σ 12 10 (nI r).toNatClampNeg) = nI i then ((fc_X3_roomBehind σ (some i0) (nI r) (nI d)).bind fun r_1 => if r_1.1 = (-1 : Int32) then fc_X3_goFurther_70 K2 (fc_X3_goFurther_16 K2 n) r_1.2 (some i0) (nI i) (nI r) (nI d) else if r_1.1 < 0 ∨ 12 ≤ r_1.1.toNatClampNeg then none else if (cI r_1.2 12 10 r_1.1.toNatClampNeg) = (-1 : Int32) then (if r_1.1 < 0 ∨ 12 ≤ r_1.1.toNatClampNeg then none else fc_X3_goFurther_70 K2 (fc_X3_goFurther_16 K2 n) (uI r_1.2 12 10 r_1.1.toNatClampNeg (nI i + (1 : Int32))) (some i0) (nI i) (nI r) (nI d)) else fc_X3_goFurther_70 K2 (fc_X3_goFurther_16 K2 n) r_1.2 (some i0) (nI i) (nI r) (nI d)) else fc_X3_goFurther_76 K2 σ (some i0) (nI i) (nI r) from rfl]
    rw [if_neg (show ¬ (6 : Int32) ≤ nI d by rw [n6, jLe (by omega) (by omega)]; omega), if_neg (iN0 (show r < 12 by omega) (by omega)), jCl (show r < 100000 by omega), hF r (by omega), h0, if_pos (show oI (some i) = nI i from rfl), fc_roomBehind_s hw hW hs hm (by omega) (by omega), Option.bind_some]
    cases ef : sFree w s (6 * r + d) with
    | none =>
      rw [if_pos (show oI none = (-1 : Int32) from rfl)]
      exact go σ F (sEdge_n ef).symm hF (cFr.rf _ _) rfl
    | some q =>
      have hxq : w.ex (6 * r + d) = some q := by
        unfold sFree at ef
        split at ef
        · exact ef
        · split at ef
          · exact ef
          · cases ef
      have hqR := (hw.2.2.2.1 _ _ hxq).2
      show ∃ σ', (if nI q = (-1 : Int32) then fc_X3_goFurther_70 K2 (fc_X3_goFurther_16 K2 n) σ (some i0) (nI i) (nI r) (nI d) else if nI q < 0 ∨ 12 ≤ (nI q).toNatClampNeg then none else if (cI σ 12 10 (nI q).toNatClampNeg) = (-1 : Int32) then (if nI q < 0 ∨ 12 ≤ (nI q).toNatClampNeg then none else fc_X3_goFurther_70 K2 (fc_X3_goFurther_16 K2 n) (uI σ 12 10 (nI q).toNatClampNeg (nI i + (1 : Int32))) (some i0) (nI i) (nI r) (nI d)) else fc_X3_goFurther_70 K2 (fc_X3_goFurther_16 K2 n) σ (some i0) (nI i) (nI r) (nI d)) = _ ∧ _
      rw [if_neg (show ¬ nI q = (-1 : Int32) from fun z => (jM1 (a := q) (by omega)).mp z), if_neg (iN0 (show q < 12 by omega) (by omega)), if_neg (iN0 (show q < 12 by omega) (by omega)), jCl (show q < 100000 by omega), hF q (by omega)]
      by_cases z : F q = none
      · rw [z, if_pos (show oI none = (-1 : Int32) from rfl), n1, jAdd]
        refine go _ (fun y => if y = q then some (i + 1) else F y) ((sEdge_s ef).trans (if_pos z)).symm (fun y hy => ?_) (cFr.I (List.mem_singleton.mpr rfl)) rfl
        rw [uI_at]
        show _ = oI (if y = q then some (i + 1) else F y)
        by_cases z2 : y = q
        · rw [if_pos z2, if_pos z2]; rfl
        · rw [if_neg z2, if_neg z2]
          exact hF y hy
      · rw [if_neg (show ¬ oI (F q) = (-1 : Int32) by rw [oI_no hb]; exact z)]
        exact go σ F ((sEdge_s ef).trans (if_neg z)).symm hF (cFr.rf _ _) rfl
theorem fc_edge_no {K2 : cS → Option Nat → Int32 → Int32 → Option cS} {i0 i r n : Nat} {F : Fs} (hr : r < 12) (hF : CFar σ F) (hb : Fb F) (hi : i < 12) (h : ¬ F r = some i) : fc_X3_goFurther_16 K2 (n + 1) σ (some i0) (nI i) (nI r) (nI 0) = fc_X3_goFurther_76 K2 σ (some i0) (nI i) (nI r) := by
  rw [show fc_X3_goFurther_16 K2 (n + 1) σ (some i0) (nI i) (nI r) (nI 0) = if (6 : Int32) ≤ nI 0 then fc_X3_goFurther_76 K2 σ (some i0) (nI i) (nI r) else if nI r < 0 ∨ 12 ≤ (nI r).toNatClampNeg then none else if (cI σ 12 10 (nI r).toNatClampNeg) = nI i then _ else fc_X3_goFurther_76 K2 σ (some i0) (nI i) (nI r) from rfl]
  rw [if_neg (show ¬ (6 : Int32) ≤ nI 0 by decide), if_neg (iN0 hr (by omega)), jCl (show r < 100000 by omega), hF r hr, if_neg (show ¬ oI (F r) = nI i by rw [oI_eq hb (by omega)]; exact h)]
theorem fc_rnd_l (hw : Wd.ok w) (hs : St.ok w s) {i0 i : Nat} (hi : i < 12) : ∀ (e r n : Nat) (σ : cS) (F : Fs), r + e = w.R → e < n → CWd σ w → cLbs σ → RSt σ i0 s → CFar σ F → Fb F → ∃ σ', fc_X3_goFurther_2 n σ (some i0) (nI i) (nI r) = some σ' ∧ CFar σ' (sRnd w s i e r F) ∧ cFr [(12, 10)] σ σ' ∧ cn σ' = cn σ := by
  have hR := hw.1.2.1
  intro e
  induction e with
  | zero =>
    intro r n σ F hr hn hW hL hm hF hb
    obtain ⟨n, rfl⟩ : ∃ m, n = m + 1 := ⟨n - 1, by omega⟩
    refine ⟨σ, ?_, hF, cFr.rf _ _, rfl⟩
    rw [show fc_X3_goFurther_2 (n + 1) σ (some i0) (nI i) (nI r) = if (cI σ 2 0 6) ≤ nI r then some σ else _ from rfl]
    rw [hW.1.2.1]
    exact if_pos (show nI w.R ≤ nI r by rw [jLe (by omega) (by omega)]; omega)
  | succ e ih =>
    intro r n σ F hr hn hW hL hm hF hb
    obtain ⟨n, rfl⟩ : ∃ m, n = m + 1 := ⟨n - 1, by omega⟩
    rw [show fc_X3_goFurther_2 (n + 1) σ (some i0) (nI i) (nI r) = if (cI σ 2 0 6) ≤ nI r then some σ else fc_X3_goFurther_16 (fc_X3_goFurther_2 n) 3000 σ (some i0) (nI i) (nI r) (nI 0) from rfl]
    rw [hW.1.2.1, if_neg (show ¬ nI w.R ≤ nI r by rw [jLe (by omega) (by omega)]; omega)]
    have one : ∃ σ1, fc_X3_goFurther_16 (fc_X3_goFurther_2 n) 3000 σ (some i0) (nI i) (nI r) (nI 0) = fc_X3_goFurther_76 (fc_X3_goFurther_2 n) σ1 (some i0) (nI i) (nI r) ∧ CFar σ1 (sRm1 w s i r F) ∧ cFr [(12, 10)] σ σ1 ∧ cn σ1 = cn σ := by
      by_cases z : F r = some i
      · obtain ⟨σ1, a1, a2, a3, a4⟩ := fc_edge_l hw hs (K2 := fc_X3_goFurther_2 n) hi (show r < w.R by omega) 6 0 3000 σ F (by omega) (by omega) hW hL hm hF hb z
        refine ⟨σ1, a1, ?_, a3, a4⟩
        unfold sRm1
        rw [if_pos z]
        exact a2
      · refine ⟨σ, ?_, ?_, cFr.rf _ _, rfl⟩
        · obtain ⟨m, hm3⟩ : ∃ m, 3000 = m + 1 := ⟨2999, rfl⟩
          rw [hm3]
          exact fc_edge_no (by omega) hF hb (by omega) z
        · unfold sRm1
          rw [if_neg z]
          exact hF
    obtain ⟨σ1, a1, a2, a3, a4⟩ := one
    rw [a1]
    unfold fc_X3_goFurther_76
    rw [n1, jAdd]
    obtain ⟨x1, x2, x3⟩ := cfar_st hW hL hm a3
    obtain ⟨σ', b1, b2, b3, b4⟩ := ih (r + 1) n σ1 (sRm1 w s i r F) (by omega) (by omega) x1 x2 x3 a2 (sRm1_b hi r hb)
    exact ⟨σ', b1, b2, a3.tr b3, b4.trans a4⟩
theorem fc_rnds_l (hw : Wd.ok w) (hs : St.ok w s) {i0 m : Nat} (hm' : m < 12) : ∀ (e i n : Nat) (σ : cS) (F : Fs), i + e = w.R → e < n → CWd σ w → cLbs σ → RSt σ i0 s → CFar σ F → Fb F → ∃ σ', fc_X3_distanceTo_20 n σ (some i0) (nI m) (nI i) = some (oI (sRnds w s e i F m), σ') ∧ cFr [(12, 10)] σ σ' ∧ cn σ' = cn σ := by
  have hR := hw.1.2.1
  intro e
  have i12 : ¬ (nI m < 0 ∨ 12 ≤ (nI m).toNatClampNeg) := iN0 hm' (by omega)
  induction e with
  | zero =>
    intro i n σ F hr hn hW hL hm hF hb
    obtain ⟨n, rfl⟩ : ∃ m, n = m + 1 := ⟨n - 1, by omega⟩
    refine ⟨σ, ?_, cFr.rf _ _, rfl⟩
    rw [show fc_X3_distanceTo_20 (n + 1) σ (some i0) (nI m) (nI i) = if (cI σ 2 0 6) ≤ nI i then fc_X3_distanceTo_53 σ (nI m) else _ from rfl]
    rw [hW.1.2.1, if_pos (show nI w.R ≤ nI i by rw [jLe (by omega) (by omega)]; omega)]
    unfold fc_X3_distanceTo_53
    rw [if_neg i12, jCl (by omega), hF m hm']
    rfl
  | succ e ih =>
    intro i n σ F hr hn hW hL hm hF hb
    obtain ⟨n, rfl⟩ : ∃ m, n = m + 1 := ⟨n - 1, by omega⟩
    rw [show fc_X3_distanceTo_20 (n + 1) σ (some i0) (nI m) (nI i) = if (cI σ 2 0 6) ≤ nI i then fc_X3_distanceTo_53 σ (nI m) else if nI m < 0 ∨ 12 ≤ (nI m).toNatClampNeg then none else if (cI σ 12 10 (nI m).toNatClampNeg) = (-1 : Int32) then ((fc_X3_goFurther_2 3000 σ (some i0) (nI i) (nI 0)).bind fun r_1 => (fc_X3_distanceTo_20 n) r_1 (some i0) (nI m) (nI i + (1 : Int32))) else fc_X3_distanceTo_53 σ (nI m) from rfl]
    rw [hW.1.2.1, if_neg (show ¬ nI w.R ≤ nI i by rw [jLe (by omega) (by omega)]; omega), if_neg i12, jCl (by omega), hF m hm', show nI i + 1 = nI (i + 1) from jAdd i 1]
    by_cases z : F m = none
    · rw [z, if_pos (show oI none = (-1 : Int32) from rfl)]
      obtain ⟨σ1, a1, a2, a3, a4⟩ := fc_rnd_l hw hs (i0 := i0) (i := i) (by omega) w.R 0 3000 σ F (by omega) (by omega) hW hL hm hF hb
      rw [a1, Option.bind_some]
      obtain ⟨x1, x2, x3⟩ := cfar_st hW hL hm a3
      obtain ⟨σ', b1, b2, b3⟩ := ih (i + 1) n σ1 (sRnd w s i w.R 0 F) (by omega) (by omega) x1 x2 x3 a2 (sRnd_b (by omega) _ _ hb)
      exact ⟨σ', b1, a3.tr b2, b3.trans a4⟩
    · refine ⟨σ, ?_, cFr.rf _ _, rfl⟩
      rw [if_neg (show ¬ oI (F m) = (-1 : Int32) by rw [oI_no hb]; exact z)]
      unfold fc_X3_distanceTo_53
      rw [if_neg i12, jCl (by omega), hF m hm']
      cases e1 : F m with
      | none => exact absurd e1 z
      | some v => rw [sRnds_le (e + 1) i F m v e1]
theorem fc_fill_l (hL : cLbs σ) (h12 : cln σ 12 10 = 12) : ∀ (d x n : Nat) (σ1 : cS), x + d = 12 → d < n → cFr [(12, 10)] σ σ1 → cn σ1 = cn σ → (∀ y, y < x → cI σ1 12 10 y = -1) → ∃ σ', fc_J7_fill_53178_5 n σ1 (some 10) (-1) (nI x) (nI 12) = some σ' ∧ cFr [(12, 10)] σ σ' ∧ cn σ' = cn σ ∧ ∀ y, y < 12 → cI σ' 12 10 y = -1 := by
  intro d
  induction d with
  | zero =>
    intro x n σ1 hx hn hf hc hy
    obtain ⟨n, rfl⟩ : ∃ m, n = m + 1 := ⟨n - 1, by omega⟩
    refine ⟨σ1, ?_, hf, hc, fun y h => hy y (by omega)⟩
    rw [show fc_J7_fill_53178_5 (n + 1) σ1 (some 10) (-1) (nI x) (nI 12) = if nI 12 ≤ nI x then some σ1 else _ from rfl]
    exact if_pos (show nI 12 ≤ nI x by rw [jLe (by omega) (by omega)]; omega)
  | succ d ih =>
    intro x n σ1 hx hn hf hc hy
    obtain ⟨n, rfl⟩ : ∃ m, n = m + 1 := ⟨n - 1, by omega⟩
    have hl : 10 < cn σ 12 := Nat.lt_of_lt_of_le (by decide) (hL 12 (by decide))
    have h10 : 10 < cn σ1 12 := by rw [hc]; exact hl
    have e12 : cln σ1 12 10 = 12 := by rw [(hf.2 12 10 hl).1]; exact h12
    rw [show fc_J7_fill_53178_5 (n + 1) σ1 (some 10) (-1) (nI x) (nI 12) = if nI 12 ≤ nI x then some σ1 else (dr σ1 12 (some 10)).bind fun i_1 => if nI x < 0 ∨ cln σ1 12 i_1 ≤ (nI x).toNatClampNeg then none else (fc_J7_fill_53178_5 n) (uI σ1 12 i_1 (nI x).toNatClampNeg (-1)) (some 10) (-1) (nI x + (1 : Int32)) (nI 12) from rfl]
    rw [if_neg (show ¬ nI 12 ≤ nI x by rw [jLe (by omega) (by omega)]; omega), dr_mk h10, Option.bind_some, e12, if_neg (iN0 (show x < 12 by omega) (by omega)), jCl (by omega), n1, jAdd]
    refine ih (x + 1) n _ (by omega) (by omega) (hf.tr (cFr.I (List.mem_singleton.mpr rfl))) hc (fun y hy2 => ?_)
    rw [uI_at]
    by_cases z : y = x
    · rw [if_pos z]; rfl
    · rw [if_neg z]
      exact hy y (by omega)
theorem meth_steps (hR : Rel g σ τ) (v : Int32) : Alk [4, 2, 5] g (fc_X11_steps σ v) (fm_steps τ v) := by
  obtain ⟨hok, hCR, hMR⟩ := id hR
  obtain ⟨k1, k2, k3, hp, k5, k6⟩ := id hok
  obtain ⟨r1, r2, r3, hC, r5, r6, r7, s0, r8⟩ := id hCR
  obtain ⟨m1, m2, m3, m4, m5, hM⟩ := id hMR
  have hMR0 := mr0 hMR
  obtain ⟨n1', n2, n3, n4, n5, n6'⟩ := id hMR0
  have h80 := k3.1.1
  have hR12 := k1.1.2.1
  have bad : ∀ k, 0 < k → k < 1000 → fm_steps_25 τ v (nI k) = some (0, mI τ 0 (nI k)) := fun k h1 h2 => by
    unfold fm_steps_25
    rw [wrong_s τ (by omega) h1]
    exact if_neg nz1
  unfold fc_X11_steps fm_steps
  rw [fc_needRoom_s k1 r1, xb_if, fm_isRoom_s k1 m1, Option.bind_some, bI_if]
  refine Alk.ite (fun qr => ?_) fun _ => Alk.x (c := 4) (j := 0) (v := 0) hR rfl (bad 1 (by omega) (by omega)) rfl
  show Alk [4, 2, 5] g (xb (fc_X11_stateHere σ) _) (if τ.1 20 = 0 then _ else _)
  rw [fc_stateHere_s k3 r3, xb_xb, fc_needPlay_s r3 h80, xb_ifN, begun_if m3]
  refine Alk.ite (fun z => Alk.x (c := 2) (j := 1) (v := 0) hR rfl (bad 2 (by omega) (by omega)) rfl) fun z => ?_
  have hn := k3.1.2.1 (by omega)
  have hst := (k3.2.2.1 _ hn).1
  have hrm := hst.1
  obtain ⟨m, rfl, hm⟩ := vIn_ex (by omega) qr
  obtain ⟨-, -, -, -, -, x5, -⟩ := r3.2.1 _ hn
  have h12 : cln σ 12 10 = 12 := r5.2.1.1
  have hl : 10 < cn σ 12 := Nat.lt_of_lt_of_le (by decide) (r6 12 (by decide))
  obtain ⟨s, hs⟩ : ∃ s, s = g.t.st g.t.now := ⟨_, rfl⟩
  rw [← hs] at x5 hst hrm
  -- the class
  obtain ⟨σ1, a1, a2, a3, a4⟩ := fc_fill_l r6 h12 12 0 3000 σ (by omega) (by omega) (cFr.rf _ _) rfl (fun y hy => by omega)
  obtain ⟨σ2, hσ2⟩ : ∃ σ2, σ2 = uI σ1 12 10 s.rm (0 : Int32) := ⟨_, rfl⟩
  have f2 : cFr [(12, 10)] σ σ2 := by rw [hσ2]; exact a2.tr (cFr.I (List.mem_singleton.mpr rfl))
  have c2 : cn σ2 = cn σ := by rw [hσ2]; exact a3
  obtain ⟨y1, y2, y3⟩ := cfar_st r1 r6 x5 f2
  obtain ⟨-, -, y4⟩ := cfar_st r1 r6 x5 a2
  have F0 : CFar σ2 (sF0 s) := fun r hr => by
    rw [hσ2, uI_at]
    unfold sF0
    by_cases q : r = s.rm
    · rw [if_pos q, if_pos q]; rfl
    · rw [if_neg q, if_neg q]
      exact a4 r hr
  obtain ⟨σ3, b1, b2, b3⟩ := fc_rnds_l k1 hst (i0 := g.t.now + 1) (m := m) (by omega) g.w.R 0 3000 σ2 (sF0 s) (by omega) (by omega) y1 y2 y3 F0 (sF0_b s)
  have f3 : cFr [(12, 10)] σ σ3 := f2.tr b2
  have c3 : cn σ3 = cn σ := b3.trans c2
  have hC3 : CR σ3 g := hCR.fr f3 (fun q hq => by rw [List.mem_singleton] at hq; rw [hq]; exact Or.inr (Or.inr (Or.inr (Or.inr (Or.inl rfl))))) (fun k _ _ _ => by rw [c3]) ⟨s0, r8.fr f3 (fun q hq => by rw [List.mem_singleton] at hq; rw [hq]; unfold cSc; simp)⟩ (r5.2.fr r6 f3 (by decide))
  have ed : fc_X3_distanceTo σ (some (g.t.now + 1)) (nI m) = some (oI (sRnds g.w s g.w.R 0 (sF0 s) m), σ3) := by
    unfold fc_X3_distanceTo fc_J7_fill_53178
    rw [dr_mk hl, Option.bind_some, h12]
    show (fc_J7_fill_53178_5 3000 σ (some 10) (-1) (nI 0) (nI 12)).bind _ = _
    rw [a1, Option.bind_some, dr_mk y4.1.1, Option.bind_some, y4.2.2.1, if_neg (iN0 (show s.rm < 12 by omega) (by omega)), jCl (by omega), ← hσ2]
    exact b1
  rw [ed, Option.bind_some]
  -- the reference
  obtain ⟨τ1, t1, t2, t3, t4⟩ := fm_takesUp_s k1 n1' (show g.t.now < 80 by omega) (n3.2 _ hn).2.2
  rw [← hs] at t2
  have hM1 : MR τ1 g := hMR0.fr t4 (by decide)
  obtain ⟨τ2, u1, u2, u3⟩ := fm_far0_l k1 hst (x1 := nI m) g.w.R 0 3000 τ1 (by omega) (by omega) hM1.1 t2 (fun y hy => by omega)
  have hM2 : MR τ2 g := hM1.fr u3 (by decide)
  obtain ⟨τ3, w1, w2, w3⟩ := fm_rnds_l k1 hst (x1 := nI m) g.w.R 0 3000 τ2 (sF0 s) (by omega) (by omega) hM2.1 (t2.fr u3 (by decide)) u2 (sF0_b s)
  have hM3 : MR τ3 g := hM2.fr w3 (by decide)
  have hb : Fb (sRnds g.w s g.w.R 0 (sF0 s)) := sRnds_b g.w.R 0 (by omega) (sF0_b s)
  have i12 : ¬ (nI m < 0 ∨ 12 ≤ (nI m).toNatClampNeg) := iN0 (show m < 12 by omega) (by omega)
  have em : fm_steps_25 τ (nI m) 0 = if oI (sRnds g.w s g.w.R 0 (sF0 s) m) = (-1 : Int32) then fm_steps_195 τ3 (nI m) 3 else fm_steps_195 τ3 (nI m) 0 := by
    unfold fm_steps_25
    rw [show fm_isWrong τ 0 = fm_isWrong τ (nI 0) from rfl, right_s]
    show (if nI 0 = 0 then (fm_takesUp (mI τ 0 (nI 0)) ((mI τ 0 (nI 0)).1 34)).bind _ else _) = _
    rw [if_pos (show nI 0 = 0 from rfl), n3.1.2.1, t1, Option.bind_some]
    show fm_steps_43 3000 τ1 (nI m) (nI 0) = _
    rw [u1, w1, if_neg i12, jCl (by omega), w2 m hm]
  rw [em]
  refine Alk.ite (fun zz => ?_) fun zz => ?_
  · refine Alk.x' (c := 5) (j := 2) (v := 0) (τ2 := mI τ3 0 (nI 3)) hok hC3 (hM3.th _) rfl ?_ (mI_at _ _ _) rfl
    unfold fm_steps_195 fm_steps_211
    rw [show fm_isWrong τ3 3 = fm_isWrong τ3 (nI 3) from rfl, wrong_s _ (by omega) (by omega)]
    exact if_neg nz1
  · refine ⟨g, .inr _, σ3, _, mI τ3 0 (nI 0), rfl, ?_, by rw [mI_at]; exact Agr.v, hok, hC3, hM3.th _⟩
    unfold fm_steps_195 fm_steps_211
    rw [show fm_isWrong τ3 0 = fm_isWrong τ3 (nI 0) from rfl, right_s]
    show (if nI 0 = 0 then (if nI m < 0 ∨ 12 ≤ (nI m).toNatClampNeg then none else some (τ3.2.2.1 50 (nI m).toNatClampNeg, mI τ3 0 (nI 0))) else _) = _
    rw [if_pos (show nI 0 = 0 from rfl), if_neg i12, jCl (by omega), w2 m hm]
end V20
