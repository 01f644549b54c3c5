/-! The line of play: line and signOf. -/
theorem m65 : ∀ c, c < 128 → ((nI c).toUInt32 % 65536).toInt32 = nI c := by decide +kernel
section F21
variable {g : Gm} {σ σ1 : cS} {τ τ1 : mS} {w : Wd} {t : Tr} {l m : List Nat} {s : St}
theorem fc_car_l (hw : Wd.ok w) (hs : St.ok w s) {n0' i0 : Nat} : ∀ (d x n : Nat) (σ : cS) (l : List Nat), x + d = w.T → d < n → CWd σ w → cLbs σ → n0' < cn σ 7 → cR σ 7 n0' 3 = some i0 → RSt σ i0 s → SBd σ l → l.length + 9 * d ≤ 142 → ∃ σ', fc_X11_writeLine_36 n σ (some n0') (nI x) = some σ' ∧ SBd σ' (l ++ sCar w s d x) ∧ KB σ σ' := by
  have hT := hw.1.2.2.1
  intro d
  induction d with
  | zero =>
    intro x n σ l hx hn hW hL h7 h3 hR hS hl
    obtain ⟨n, rfl⟩ : ∃ j, n = j + 1 := ⟨n - 1, by omega⟩
    refine ⟨σ, ?_, by rw [sCar, List.append_nil]; exact hS, KB.rf σ⟩
    rw [show fc_X11_writeLine_36 (n + 1) σ (some n0') (nI x) = if (cI σ 2 0 13) ≤ nI x then some σ else _ from rfl]
    rw [hW.1.2.2.1]
    exact if_pos ((jLe (by omega) (by omega)).mpr (by omega))
  | succ d ih =>
    intro x n σ l hx hn hW hL h7 h3 hR hS hl
    obtain ⟨n, rfl⟩ : ∃ j, n = j + 1 := ⟨n - 1, by omega⟩
    have hxT : x < w.T := by omega
    have hwl := word_len hw hxT
    obtain ⟨hnW, -⟩ := hw.2.2.2.2.2.1 x hxT
    have step : fc_X11_writeLine_36 (n + 1) σ (some n0') (nI x) = if s.pl x = 100 then (fc_X11_writeWord σ (nI (w.noun x))).bind fun r_4 => fc_X11_writeLine_36 n r_4 (some n0') (nI (x + 1)) else fc_X11_writeLine_36 n σ (some n0') (nI (x + 1)) := by
      rw [show fc_X11_writeLine_36 (n + 1) σ (some n0') (nI x) = if (cI σ 2 0 13) ≤ nI x then some σ else (dr σ 7 (some n0')).bind fun i_1 => (dr σ 6 (cR σ 7 i_1 3)).bind fun i_2 => (dr σ 12 (cR σ 6 i_2 1)).bind fun i_3 => if nI x < 0 ∨ cln σ 12 i_3 ≤ (nI x).toNatClampNeg then none else if (cI σ 12 i_3 (nI x).toNatClampNeg) = (100 : Int32) then (if nI x < 0 ∨ 12 ≤ (nI x).toNatClampNeg then none else if ¬ (lvq σ 7 (some n0') = true) then none else (fc_X11_writeWord σ (cI σ 12 4 (nI x).toNatClampNeg)).bind fun r_4 => fc_X11_writeLine_36 n r_4 (some n0') (nI x + nI 1)) else fc_X11_writeLine_36 n σ (some n0') (nI x + nI 1) from rfl]
      rw [hW.1.2.2.1, if_neg (fun z => by have := (jLe (by omega) (by omega)).mp z; omega), dr_mk h7, Option.bind_some, h3, dr_mk hR.1.1, Option.bind_some, hR.1.2.1, dr_mk (show 13 + 2 * i0 < cn σ 12 by have := hR.2.1.1; omega), Option.bind_some, hR.2.1.2.2.1, if_neg (iN0 (show x < 12 by omega) (by omega)), jCl (by omega), (hR.2.2.2 x (by omega)).1, if_neg (iN1 (show x < 12 by omega) (by omega)), if_neg (fun z => (lvq_mk h7).mp z), (hW.2.2.2.2.2.1 x hxT).1, jAdd]
      by_cases q : s.pl x = 100
      · rw [if_pos q, if_pos (show nI (s.pl x) = (100 : Int32) by rw [q]; rfl)]
      · rw [if_neg q]
        refine if_neg (fun z => q ?_)
        have hp := (hs.2.1 x hxT).1
        have hR' := hw.1.2.1
        exact (jEq (b := 100) (by omega) (by omega)).mp z
    by_cases q : s.pl x = 100
    · obtain ⟨σ1, a1, a2, a3⟩ := fc_word_s hw hW hL hnW hS (by omega)
      obtain ⟨W1, L1⟩ := hW.kb hL a3
      have len : (l ++ 32 :: w.word (w.noun x)).length = l.length + ((w.word (w.noun x)).length + 1) := List.length_append
      obtain ⟨σ2, b1, b2, b3⟩ := ih (x + 1) n σ1 _ (by omega) (by omega) W1 L1 (Nat.lt_of_lt_of_le h7 (a3.1 7)) (by rw [(a3.J h7 (by decide) (by decide)).2.2]; exact h3) (hR.kb a3) a2 (by omega)
      refine ⟨σ2, by rw [step, if_pos q, a1, Option.bind_some, b1], ?_, a3.tr b3⟩
      rw [sCar, if_pos q, ← List.append_assoc]
      exact b2
    · obtain ⟨σ2, b1, b2, b3⟩ := ih (x + 1) n σ l (by omega) (by omega) hW hL h7 h3 hR hS (by omega)
      refine ⟨σ2, by rw [step, if_neg q, b1], ?_, b3⟩
      rw [sCar, if_neg q, List.nil_append]
      exact b2
theorem fc_line_s (hw : Wd.ok w) (ht : Tr.ok w t) (h0 : 0 < t.N) (hW : CWd σ w) (hC : CTr σ t) (hL : cLbs σ) (hB : SBi σ) (hq : ∀ n, n < t.N → ((∃ a b, t.cm n = (0, a, b)) ∨ cmQ w (t.cm n)) ∧ qSm (t.cm n) ∧ (sSay w (t.cm n)).length ≤ 30) : ∃ σ', fc_X11_writeLine σ = some σ' ∧ SBd σ' (sLn w t t.now) ∧ KB σ σ' := by
  have hn := ht.1.2.1 h0
  have h80 := ht.1.1
  have hT := hw.1.2.2.1
  obtain ⟨q1, q2, q3⟩ := hq _ hn
  obtain ⟨-, y1, y2, y3, y4, y5, c, y6, y7⟩ := hC.2.1 _ hn
  have h7 : t.now < cn σ 7 := by rw [hC.1.2.2.1]; exact hn
  obtain ⟨σ1, a1, a2, a3⟩ := sb_setl hB
  obtain ⟨W1, L1⟩ := hW.kb hL a3
  have h71 : t.now < cn σ1 7 := Nat.lt_of_lt_of_le h7 (a3.1 7)
  obtain ⟨-, -, r1⟩ := a3.J h7 (by decide) (by decide)
  have cur : fc_X8_current σ1 = some (some t.now, σ1) := by
    have f := a3.cFr
    have no : ∀ k i, k ≠ 11 → k ≠ 16 → (k, i) ∉ kbP σ := fun k i h11 h16 h => (kbP_1 _ h).elim h11 h16
    have hc := (hC.1.2.1.fr f (no 10 0 (by decide) (by decide)) (fun e _ => no 17 e (by decide) (by decide))).1
    refine fc_current_g hc ?_ hn (by omega) h71
    have h4 : 0 < cn σ 4 := Nat.lt_of_lt_of_le (by decide) (hL 4 (by decide))
    rw [(a3.J h4 (by decide) (by decide)).1]
    exact hC.1.1
  obtain ⟨σ2, b1, b2, b3⟩ := fc_cmd_s hw W1 L1 q1 q2 (y7.kb a3) a2
  have k2 := a3.tr b3
  have h72 : t.now < cn σ2 7 := Nat.lt_of_lt_of_le h7 (k2.1 7)
  obtain ⟨σ3, c1, c2, c3⟩ := sb_appc b2 (c := 58) (by omega) (by omega)
  have k3 := k2.tr c3
  obtain ⟨W3, L3⟩ := hW.kb hL k3
  have h73 : t.now < cn σ3 7 := Nat.lt_of_lt_of_le h7 (k3.1 7)
  obtain ⟨-, -, r3⟩ := k3.J h7 (by decide) (by decide)
  have len : (sSay w (t.cm t.now) ++ [58]).length = (sSay w (t.cm t.now)).length + 1 := List.length_append
  obtain ⟨σ4, d1, d2, d3⟩ := fc_car_l hw (ht.2.2.1 _ hn).1 w.T 0 3000 σ3 _ (by omega) (by omega) W3 L3 h73 (by rw [r3]; exact y2) (y5.kb k3) c2 (by omega)
  refine ⟨σ4, ?_, ?_, k3.tr d3⟩
  · unfold fc_X11_writeLine fc_X11_writeLine_8 fc_X11_writeLine_15 fc_X11_writeLine_24 fc_X11_writeLine_33
    rw [a1, Option.bind_some, cur, Option.bind_some, dr_mk h71, Option.bind_some, if_neg (fun z => (lvq_mk h71).mp z), r1, y6, b1, Option.bind_some, if_neg (fun z => (lvq_mk h72).mp z), show (58 : Int32) = nI 58 from rfl, c1, Option.bind_some]
    exact d1
  · unfold sLn
    rw [app1]
    exact d2
theorem lines_ok (hok : Gm.ok g) (hM : MCs τ g.w g.t) (h0 : 0 < g.t.N) : (∀ n, n < g.t.N → ((∃ a b, g.t.cm n = (0, a, b)) ∨ cmQ g.w (g.t.cm n)) ∧ qSm (g.t.cm n) ∧ (sSay g.w (g.t.cm n)).length ≤ 30) ∧ (g.t.cm 0).1 = 0 := by
  obtain ⟨k1, k2, k3, k4, k5, k6⟩ := hok
  have e0 := (k6 h0).1
  have h80 := k3.1.1
  refine ⟨fun n hn => ?_, by rw [e0]⟩
  by_cases z : n = 0
  · rw [z, e0]
    exact ⟨Or.inl ⟨_, _, rfl⟩, fun h => absurd h (show ¬ 12 ≤ 0 by decide), sSay_len (Or.inl ⟨rfl, trivial⟩)⟩
  · obtain ⟨c1, c2, c3⟩ := k5 n (by omega) hn
    obtain ⟨-, -, -, m3⟩ := hM n (by omega) hn
    have hv : (g.t.cm n).1 < 12 ∨ (12 ≤ (g.t.cm n).1 ∧ (g.t.cm n).1 ≤ 14) := by
      rcases c1 with y | ⟨v, h, y1, y2, y3, y4⟩
      · refine Or.inl ?_
        rcases y with ⟨d, y1, y⟩ | y | y | ⟨v, k, y1, y2, y3, y⟩ | ⟨a, b, y1, y2, y⟩
        · rw [y]; show 1 < 12; decide
        · rw [y]; show 10 < 12; decide
        · rw [y]; show 11 < 12; decide
        · rw [y]; show v < 12; omega
        · rw [y]; show 9 < 12; decide
      · rw [y4]
        exact Or.inr ⟨y1, y2⟩
    refine ⟨Or.inr c1, fun h12 => ?_, ?_⟩
    · rcases hv with y | ⟨y1, y2⟩
      · omega
      · by_cases q : (g.t.cm n).1 ≤ 13
        · have := c2 h12 q
          cases e : (g.t.cm n).2.1 with
          | none => show 0 < 100; decide
          | some b =>
            have h1 := this b e
            have h2 := k4.1.1
            show b < 100
            omega
        · obtain ⟨m, r1, r2, -⟩ := c3.2.2 (by omega)
          rw [r1]
          show m < 100
          omega
    · rcases hv with y | y
      · exact sSay_len (Or.inr (Or.inl ⟨y, (m3 y).2.1⟩))
      · exact sSay_len (Or.inr (Or.inr y))
theorem sLn_len (hw : Wd.ok w) {n : Nat} (h : (sSay w (t.cm n)).length ≤ 30) : (sLn w t n).length ≤ 139 := by
  have h1 := sCar_len hw (t.st n) w.T 0 (by omega)
  have h2 := hw.1.2.2.1
  unfold sLn
  rw [List.length_append]
  show _ + ((sCar w (t.st n) w.T 0).length + 1) ≤ 139
  omega
theorem lines_both (hR : Rel g σ τ) (h0 : 0 < g.t.N) : ∃ σ' τ', fc_X11_writeLine σ = some σ' ∧ fm_lines (mI τ 0 (nI 0)) = some τ' ∧ SBd σ' (sLn g.w g.t g.t.now) ∧ MLn τ' (sLn g.w g.t g.t.now) ∧ (sLn g.w g.t g.t.now).length ≤ 139 ∧ τ'.1 0 = nI 0 ∧ Rel g σ' τ' := by
  obtain ⟨hok, hCR, hMR⟩ := id hR
  obtain ⟨k1, k2, k3, k4, k5, k6⟩ := id hok
  obtain ⟨r1, r2, r3, r4, r5, r6, r7, r8⟩ := id hCR
  obtain ⟨n1', n2, n3, n4, n5, n6'⟩ := hMR.th (nI 0)
  obtain ⟨o1, o2⟩ := lines_ok hok n4 h0
  have hn := k3.1.2.1 h0
  obtain ⟨τ', b1, b2, b3⟩ := fm_lines_s k1 k3 h0 n1' n3 n4 o2 (fun n _ hn => (o1 n hn).2.1)
  obtain ⟨σ', a1, a2, a3⟩ := fc_line_s k1 k3 h0 r1 r3 r6 r5.2 o1
  exact ⟨σ', τ', a1, b1, a2, b2, sLn_len k1 (o1 _ hn).2.2, (b3 0 (by decide)).1, hok, hCR.kb a3 a2.1, (hMR.th (nI 0)).fr b3 (by decide)⟩
theorem meth_line (hR : Rel g σ τ) : Alk [2] g (fc_X11_line σ) (fm_line τ) := by
  refine Alk.begun (v := 0) hR rfl (f := fc_X11_line σ) (m := fm_line τ) rfl rfl (fun _ => rfl) fun h0 => ?_
  obtain ⟨σ', τ', a1, a2, a3, a4, a5, a6, a7⟩ := lines_both hR h0
  show Alk [2] g ((fc_X11_writeLine σ).bind _) ((fm_lines (mI τ 0 (nI 0))).bind _)
  rw [a1, a2, Option.bind_some, Option.bind_some]
  refine ⟨g, .inr (nI (sLn g.w g.t g.t.now).length), σ', nI (sLn g.w g.t g.t.now).length, τ', ?_, ?_, by rw [a6]; exact Agr.v, a7⟩
  · show some (Sum.inr (cI σ' 11 0 3), σ') = _
    rw [a3.2.1]
  · show some (τ'.1 52, τ') = _
    rw [a4.1]
theorem meth_signOf (hR : Rel g σ τ) (v : Int32) : Alk [2, 5] g (fc_X11_signOf σ v) (fm_signOf τ v) := by
  refine Alk.begun (v := 0) hR rfl (f := fc_X11_signOf σ v) (m := fm_signOf τ v) rfl rfl (fun _ => rfl) fun h0 => ?_
  obtain ⟨σ', τ', a1, a2, a3, a4, a5, a6, a7⟩ := lines_both hR h0
  show Alk [2, 5] g ((fc_X11_writeLine σ).bind _) ((fm_lines (mI τ 0 (nI 0))).bind _)
  rw [a1, a2, Option.bind_some, Option.bind_some]
  obtain ⟨L, hL⟩ : ∃ L, L = sLn g.w g.t g.t.now := ⟨_, rfl⟩
  rw [← hL] at a3 a4 a5
  obtain ⟨b1, b2, b3, b4, b5, b6, b7, b8⟩ := sbL a3
  have hcls : (if v < 0 then fc_X11_signOf_23 σ' else (fc_J4_length_8abf5 σ').bind fun r_4 => if v < r_4.1 then (fc_J4_charAt_5068e r_4.2 v).bind fun r_5 => if ¬ (r_5.1.toUInt32.toUInt16.toUInt32.toInt32 = r_5.1) then none else some (Sum.inr r_5.1, r_5.2) else fc_X11_signOf_23 r_4.2) = some (if vIn v L.length = true then Sum.inr (nI (L.getD v.toNatClampNeg 0)) else Sum.inl 5, σ') := by
    by_cases q : v < 0
    · rw [if_pos q, if_neg (fun z => (of_decide_eq_true z).1 q)]
      rfl
    · rw [if_neg q]
      obtain ⟨j, hj, e⟩ := nI_of q
      show (if v < cI σ' 11 0 3 then _ else _) = _
      rw [b4]
      by_cases q2 : vIn v L.length = true
      · obtain ⟨i1, i2⟩ := vIn_of (by omega) q2
        obtain ⟨k, hk⟩ : ∃ k, k = v.toNatClampNeg := ⟨_, rfl⟩
        rw [← hk] at i1 i2 ⊢
        rw [if_pos q2, i1, if_pos ((jLt (by omega) (by omega)).mpr i2)]
        have hc128 : L.getD k 0 < 128 := by
          rw [gD i2]
          exact a3.2.2.1 _ (List.getElem_mem _)
        have hsz : (nI (cln σ' 16 (arr σ'))) >>> ((cI σ' 11 0 1) &&& 31) = nI (cln σ' 16 (arr σ')) := by
          rw [b3]
          exact shr0 _ (by omega)
        have eat : fc_J5_charAt_5068e σ' (nI k) = some (nI (L.getD k 0), σ') := by
          unfold fc_J5_charAt_5068e fc_S_ck
          rw [b1, dr_mk b2, Option.bind_some, hsz, b4]
          have hck : ¬ ¬ ((0 : Int32) ≤ nI k ∧ nI k < if nI (cln σ' 16 (arr σ')) < nI L.length then nI (cln σ' 16 (arr σ')) else nI L.length) := by
            refine fun z => z ⟨?_, ?_⟩
            · rw [n0, jLe (by omega) (by omega)]
              omega
            · rw [if_neg (fun z => by have := (jLt (by omega) (by omega)).mp z; omega), jLt (by omega) (by omega)]
              exact i2
          rw [if_neg hck, Option.bind_some, if_pos b3, dr_mk b2, Option.bind_some, if_neg (iN0 (show k < cln σ' 16 (arr σ') by omega) (by omega)), jCl (by omega), b7 k i2, c128 _ hc128, if_pos (ch128 _ hc128)]
        show ((fc_J5_charAt_5068e σ' (nI k)).bind _).bind _ = _
        rw [eat, Option.bind_some]
        show (if (nI (L.getD k 0)).toUInt32.toUInt16.toUInt32.toInt32 = nI (L.getD k 0) then some (nI (L.getD k 0), σ') else none).bind _ = _
        rw [if_pos (ch128 _ hc128), Option.bind_some]
        exact if_neg (fun z => z (ch128 _ hc128))
      · rw [if_neg q2]
        refine if_neg (fun z => q2 (decide_eq_true ⟨q, ?_⟩))
        have hj2 : j < 2 ^ 31 := by omega
        rw [e] at z ⊢
        rw [nI_clamp hj2]
        exact (nI_ltI hj2 (by omega)).mp z
  have hbet : fm_isBetween v 0 ((τ'.1 52) - 1) = some (bI (vIn v L.length)) := by
    rw [a4.1]
    exact fm_isBetween_s (by omega)
  have hmodel : ((fm_isBetween v 0 ((τ'.1 52) - 1)).bind fun r_3 => if r_3 = 0 then fm_signOf_33 τ' v 2 else fm_signOf_33 τ' v 0) = if vIn v L.length = true then some (nI (L.getD v.toNatClampNeg 0), mI τ' 0 (nI 0)) else some (0, mI τ' 0 (nI 2)) := by
    rw [hbet, Option.bind_some, bI_if]
    by_cases q2 : vIn v L.length = true
    · obtain ⟨i1, i2⟩ := vIn_of (by omega) q2
      rw [if_pos q2, if_pos q2]
      obtain ⟨k, hk⟩ : ∃ k, k = v.toNatClampNeg := ⟨_, rfl⟩
      rw [← hk] at i1 i2 ⊢
      have hc128 : L.getD k 0 < 128 := by
        rw [gD i2]
        exact a3.2.2.1 _ (List.getElem_mem _)
      unfold fm_signOf_33
      rw [show fm_isWrong τ' 0 = fm_isWrong τ' (nI 0) from rfl, right_s, i1]
      show (if nI 0 = 0 then (if nI k < 0 ∨ 200 ≤ (nI k).toNatClampNeg then none else fm_signOf_50 (mI τ' 0 (nI 0)) (((τ'.2.2.1 51 (nI k).toNatClampNeg).toUInt32 % 65536).toInt32)) else _) = _
      rw [if_pos (show nI 0 = 0 from rfl), if_neg (iN0 (show k < 200 by omega) (by omega)), jCl (by omega), a4.2 k i2]
      have e65 : ((nI (L.getD k 0)).toUInt32 % 65536).toInt32 = nI (L.getD k 0) := m65 _ hc128
      rw [e65]
      exact if_pos (ch128 _ hc128)
    · rw [if_neg q2, if_neg q2]
      unfold fm_signOf_33
      rw [show fm_isWrong τ' 2 = fm_isWrong τ' (nI 2) from rfl, wrong_s τ' (by omega) (by omega)]
      show (if nI 1 = 0 then _ else _) = _
      rw [if_neg nz1]
      exact if_pos (by decide)
  by_cases q2 : vIn v L.length = true
  · rw [if_pos q2] at hcls hmodel
    exact ⟨g, .inr (nI (L.getD v.toNatClampNeg 0)), σ', nI (L.getD v.toNatClampNeg 0), mI τ' 0 (nI 0), hcls, hmodel, by rw [mI_at]; exact Agr.v, a7.1, a7.2.1, a7.2.2.th _⟩
  · rw [if_neg q2] at hcls hmodel
    exact Alk.x (c := 5) (j := 1) (v := 0) a7 hcls hmodel rfl
end F21
