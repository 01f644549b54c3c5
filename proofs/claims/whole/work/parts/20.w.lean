/-! That all is sound: the class answers so always. -/
theorem vM_at : vM.getD 12 0 = 8 ∧ vM.getD 13 0 = 9 ∧ vM.getD 14 0 = 14 ∧ ∀ v, v < 12 → vM.getD v 0 ≠ 8 ∧ vM.getD v 0 ≠ 9 ∧ vM.getD v 0 ≠ 14 := by decide +kernel
section W20
variable {g : Gm} {σ σ1 : cS} {τ τ1 : mS} {w : Wd} {t : Tr} {p : Sp}
theorem tyQ_un {q : Cm} (hw : Wd.ok w) (h : tyQ w q) : unQ q := by
  have h40 := hw.1.1
  rcases h with ⟨d, hd, h⟩ | h | h | ⟨v, k, h1, h2, hk, h⟩ | ⟨a, b, ha, hb, h⟩
  · exact Or.inl ⟨d, hd, h⟩
  · exact Or.inr (Or.inl h)
  · exact Or.inr (Or.inr (Or.inl h))
  · exact Or.inr (Or.inr (Or.inr (Or.inl ⟨v, some k, h1, h2, fun b hb => by cases hb; omega, h⟩)))
  · exact Or.inr (Or.inr (Or.inr (Or.inr ⟨some a, some b, fun b hb => by cases hb; omega, fun b hb => by cases hb; omega, h⟩)))
theorem fc_twice_i (ht : Tr.ok w t) (hT : CTr σ t) (hp : Sp.ok w t p) (hC : CSp σ p) {K : cS → Int32 → Option (Int32 × cS)} {i : Nat} (hi : i < p.S) : ∀ (d j n : Nat), j + d = p.S → i < j → d < n → fc_X5_isAnySoldTwice_17 K n σ (nI i) (nI j) = K σ (nI (i + 1)) := by
  have hS : p.S ≤ 80 := Nat.le_trans hp.1.2 ht.1.1
  have hL := hC.1.2.2.2.1
  intro d
  induction d with
  | zero =>
    intro j n hj hij hn
    obtain ⟨n, rfl⟩ : ∃ m, n = m + 1 := ⟨n - 1, by omega⟩
    rw [show fc_X5_isAnySoldTwice_17 K (n + 1) σ (nI i) (nI j) = (fc_Jx4a65c_size_8abf5 σ (some 1)).bind fun r_1 => if r_1.1 ≤ nI j then K r_1.2 (nI i + nI 1) else _ from rfl]
    rw [hL.size, Option.bind_some]
    refine (if_pos (show nI p.S ≤ nI j by rw [jLe (by omega) (by omega)]; omega)).trans ?_
    rw [jAdd]
  | succ d ih =>
    intro j n hj hij hn
    obtain ⟨n, rfl⟩ : ∃ m, n = m + 1 := ⟨n - 1, by omega⟩
    obtain ⟨y1, y2, y3⟩ := hC.2.2.2 i hi
    obtain ⟨z1, z2, z3⟩ := hC.2.2.2 j (by omega)
    obtain ⟨a1, a2, a3⟩ := hp.2.2.2.1 i hi
    obtain ⟨b1, b2, b3⟩ := hp.2.2.2.1 j (by omega)
    have hH := hp.1.1
    have hi9 : i < cn σ 9 := by rw [hC.1.2.2.2.2]; omega
    have hj9 : j < cn σ 9 := by rw [hC.1.2.2.2.2]; omega
    have e82 : fc_X5_isAnySoldTwice_82 K (fc_X5_isAnySoldTwice_17 K n) σ (nI i) (nI j) = K σ (nI (i + 1)) := by
      unfold fc_X5_isAnySoldTwice_82
      rw [n1, jAdd]
      exact ih (j + 1) n (by omega) (by omega) (by omega)
    rw [show fc_X5_isAnySoldTwice_17 K (n + 1) σ (nI i) (nI j) = (fc_Jx4a65c_size_8abf5 σ (some 1)).bind fun r_1 => if r_1.1 ≤ nI j then _ else (fc_Jx4a65c_get_915e3 r_1.2 (some 1) (nI i) 9).bind fun r_2 => if ¬ (lvq r_2.2 9 r_2.1 = true) then none else (fc_Jx4a65c_get_915e3 r_2.2 (some 1) (nI j) 9).bind fun r_3 => if ¬ (lvq r_3.2 9 r_3.1 = true) then none else (dr r_3.2 9 r_2.1).bind fun i_4 => (dr r_3.2 9 r_3.1).bind fun i_5 => if (cI r_3.2 9 i_4 0) = (cI r_3.2 9 i_5 0) then ((fc_X11_areOnOnePath r_3.2 (cR r_3.2 9 i_4 1) (cR r_3.2 9 i_5 1)).bind fun r_6 => if r_6.1 = 0 then fc_X5_isAnySoldTwice_82 K (fc_X5_isAnySoldTwice_17 K n) r_6.2 (nI i) (nI j) else (if (1 : Int32) &&& 1 = (1 : Int32) then some ((1 : Int32), r_6.2) else none)) else fc_X5_isAnySoldTwice_82 K (fc_X5_isAnySoldTwice_17 K n) r_3.2 (nI i) (nI j) from rfl]
    rw [hL.size, Option.bind_some]
    refine (if_neg (show ¬ nI p.S ≤ nI j by rw [jLe (by omega) (by omega)]; omega)).trans ?_
    show (fc_Jx4a65c_get_915e3 σ (some 1) (nI i) 9).bind _ = _
    rw [hL.get hi (by omega), Option.bind_some]
    refine (if_neg (fun z => (lvq_mk hi9).mp z)).trans ?_
    show (fc_Jx4a65c_get_915e3 σ (some 1) (nI j) 9).bind _ = _
    rw [hL.get (show j < p.S by omega) (by omega), Option.bind_some]
    refine (if_neg (fun z => (lvq_mk hj9).mp z)).trans ?_
    show (dr σ 9 (some i)).bind (fun i_4 => (dr σ 9 (some j)).bind fun i_5 => if (cI σ 9 i_4 0) = (cI σ 9 i_5 0) then ((fc_X11_areOnOnePath σ (cR σ 9 i_4 1) (cR σ 9 i_5 1)).bind fun r_6 => if r_6.1 = 0 then fc_X5_isAnySoldTwice_82 K (fc_X5_isAnySoldTwice_17 K n) r_6.2 (nI i) (nI j) else (if (1 : Int32) &&& 1 = (1 : Int32) then some ((1 : Int32), r_6.2) else none)) else fc_X5_isAnySoldTwice_82 K (fc_X5_isAnySoldTwice_17 K n) σ (nI i) (nI j)) = _
    rw [dr_mk hi9, Option.bind_some, dr_mk hj9, Option.bind_some, y1, z1, y2, z2]
    by_cases q : p.sh i = p.sh j
    · obtain ⟨o1, o2⟩ := hp.2.2.2.2.1 i j hij (by omega) q
      rw [if_pos (show nI (p.sh i) = nI (p.sh j) by rw [q]), fc_areOnOnePath_s ht hT a3 b3, Option.bind_some, o1, o2]
      refine (if_pos (show bI (false || false) = 0 from rfl)).trans ?_
      exact e82
    · rw [if_neg (show ¬ nI (p.sh i) = nI (p.sh j) from fun z => q ((jEq (by omega) (by omega)).mp z))]
      exact e82
theorem fc_twice_l (ht : Tr.ok w t) (hT : CTr σ t) (hp : Sp.ok w t p) (hC : CSp σ p) : ∀ (d i n : Nat), i + d = p.S → d < n → fc_X5_isAnySoldTwice_2 n σ (nI i) = some (0, σ) := by
  have hS : p.S ≤ 80 := Nat.le_trans hp.1.2 ht.1.1
  have hL := hC.1.2.2.2.1
  intro d
  induction d with
  | zero =>
    intro i n hi hn
    obtain ⟨n, rfl⟩ : ∃ m, n = m + 1 := ⟨n - 1, by omega⟩
    rw [show fc_X5_isAnySoldTwice_2 (n + 1) σ (nI i) = (fc_Jx4a65c_size_8abf5 σ (some 1)).bind fun r_1 => if r_1.1 ≤ nI i then (if (0 : Int32) &&& 1 = (0 : Int32) then some ((0 : Int32), r_1.2) else none) else _ from rfl]
    rw [hL.size, Option.bind_some]
    refine (if_pos (show nI p.S ≤ nI i by rw [jLe (by omega) (by omega)]; omega)).trans ?_
    exact if_pos (show (0 : Int32) &&& 1 = 0 by decide)
  | succ d ih =>
    intro i n hi hn
    obtain ⟨n, rfl⟩ : ∃ m, n = m + 1 := ⟨n - 1, by omega⟩
    rw [show fc_X5_isAnySoldTwice_2 (n + 1) σ (nI i) = (fc_Jx4a65c_size_8abf5 σ (some 1)).bind fun r_1 => if r_1.1 ≤ nI i then _ else fc_X5_isAnySoldTwice_17 (fc_X5_isAnySoldTwice_2 n) 3000 r_1.2 (nI i) (nI i + nI 1) from rfl]
    rw [hL.size, Option.bind_some]
    refine (if_neg (show ¬ nI p.S ≤ nI i by rw [jLe (by omega) (by omega)]; omega)).trans ?_
    show fc_X5_isAnySoldTwice_17 (fc_X5_isAnySoldTwice_2 n) 3000 σ (nI i) (nI i + nI 1) = _
    rw [jAdd, fc_twice_i ht hT hp hC (show i < p.S by omega) (p.S - (i + 1)) (i + 1) 3000 (by omega) (by omega) (by omega)]
    exact ih (i + 1) n (by omega) (by omega)
theorem fc_anew_s (hok : Gm.ok g) (hC : CR σ g) {n c : Nat} (h0 : 0 < n) (hn : n < g.t.N) (hc : RCm σ c (g.t.cm n)) (h6 : RSt σ 0 (g.t.st (g.t.par n))) : ∃ σ' s', fc_X11_canDoAnew σ (some c) = some (1, σ') ∧ RSt σ' 0 s' ∧ g.t.st n = sBurn g.w s' ∧ St.ok g.w s' ∧ cFr (cSc 0) σ σ' ∧ cn σ' = cn σ := by
  obtain ⟨k1, k2, k3, hp, k5, k6⟩ := id hok
  obtain ⟨r1, r2, r3, hCs, r5, r6, r7, -⟩ := id hC
  have hpar := k3.2.1 n h0 hn
  have hst := (k3.2.2.1 (g.t.par n) (by omega)).1
  obtain ⟨x1, x2, x3⟩ := k5 n h0 hn
  obtain ⟨q, hq⟩ : ∃ q, q = g.t.cm n := ⟨_, rfl⟩
  have h80 := k3.1.1
  obtain ⟨m12, m13, m14, mlt⟩ := vM_at
  unfold rpl at x3
  rw [← hq] at hc x1 x2 x3
  obtain ⟨lq, bq, bq2⟩ := cmQ_b k1 x1
  have one1 : (1 : Int32) &&& 1 = 1 := by decide
  unfold fc_X11_canDoAnew fc_X11_canDoAnew_98 fc_X11_canDoAnew_99
  rw [dr_mk hc.1, Option.bind_some, hc.2.1, dv_mk lq, Option.bind_some, if_neg (show ¬ ¬ ¬ (nI q.1 < 0 ∨ 15 ≤ (nI q.1).toNatClampNeg) from fun z => z (iN0 lq (by omega))), jCl (by omega)]
  rcases x1 with hty | ⟨v, h, h1, h2, h3, hqe⟩
  · have hlt := tyQ_lt hty
    obtain ⟨l1, l2, l3⟩ := mlt q.1 hlt
    obtain ⟨-, s', hd, hs'⟩ := x3.1 hlt
    rw [if_neg l1, if_neg l2, if_neg l3]
    obtain ⟨σ', p1, p2, p3, p4⟩ := fc_perform_s k1 r1 r6 hst h6 hc (tyQ_ok k1 hty)
    rw [hd] at p1 p2
    refine ⟨σ', s', ?_, p2, hs', sDo_ok k1 hst hd, p3, p4⟩
    rw [p1, Option.bind_some]
    exact if_pos (bI_z true)
  · have eq1 : q.1 = v := by rw [hqe]
    rw [eq1]
    by_cases z14 : v = 14
    · rw [z14, if_neg (show ¬ vM.getD 14 0 = 8 by rw [m14]; decide), if_neg (show ¬ vM.getD 14 0 = 9 by rw [m14]; decide), if_pos m14]
      obtain ⟨m, a1, a2, a3, a4⟩ := x3.2.2 (eq1.trans z14)
      have e1 : cI σ 8 c 1 = nI m := by rw [hc.2.2.1, a1]; rfl
      have hstm := (k3.2.2.1 m a2).1
      rw [e1, fc_has_s r3 h80, Option.bind_some, bI_if]
      have hv : vIn (nI m) g.t.N = true := by
        unfold vIn
        exact decide_eq_true ⟨fun z => by rw [n0, jLt (by omega) (by omega)] at z; omega, by rw [jCl (by omega)]; exact a2⟩
      rw [if_pos hv, dr_mk hc.1, Option.bind_some]
      show ∃ σ' s', (fc_Jx4a65c_get_915e3 σ (some 0) (cI σ 8 c 1) 7).bind _ = _ ∧ _
      rw [e1, r3.1.2.1.get a2 (by omega), Option.bind_some]
      obtain ⟨-, -, y2, -, -, y5, -⟩ := r3.2.1 _ a2
      obtain ⟨σ2, p1, p2, p3, p4⟩ := fc_pickUpAsIn_s k1 r1 r6 hst hstm (show 0 ≠ m + 1 by omega) h6 y5
      have hPle := sPk_le (w := g.w) (t := g.t.st m) (li := sLight g.w (g.t.st (g.t.par n))) g.w.T 0 0 (g.t.st (g.t.par n))
      have hT := k1.1.2.2.1
      refine ⟨σ2, _, ?_, p2, a4, sPk_ok _ _ _ _ (by omega) hst, p3, p4⟩
      refine (if_neg (fun z => (r3.lv a2).mp z)).trans ?_
      show ((dr σ 7 (some m)).bind fun i_6 => (fc_X3_pickUpAsIn σ (some 0) (cR σ 7 i_6 3)).bind _) = _
      rw [r3.dn a2, Option.bind_some, y2, p1, Option.bind_some]
      refine (if_neg (show ¬ nI _ ≤ 0 from fun z => by have := (jLe0 (by omega)).mp z; omega)).trans ?_
      exact if_pos one1
    · have hs' := x3.2.1 (by omega)
      refine ⟨σ, g.t.st (g.t.par n), ?_, h6, hs', hst, cFr.rf _ _, rfl⟩
      by_cases z12 : v = 12
      · rw [z12, if_pos m12, if_pos one1]
      · have z13 : v = 13 := by omega
        rw [z13, if_neg (show ¬ vM.getD 13 0 = 8 by rw [m13]; decide), if_pos m13, if_pos one1]
theorem fc_same_s (hok : Gm.ok g) (hC : CR σ g) {n : Nat} (hn : n < g.t.N) : ∃ σ', fc_X11_isSameAnew σ (some n) = some (1, σ') ∧ CR σ' g := by
  obtain ⟨k1, k2, k3, hp, k5, k6⟩ := id hok
  obtain ⟨r1, r2, r3, hCs, r5, r6, r7, s0, r8⟩ := id hC
  obtain ⟨x0, x1, x2, x3, x4, x5, c, x6, x7⟩ := r3.2.1 n hn
  have one1 : (1 : Int32) &&& 1 = 1 := by decide
  unfold fc_X11_isSameAnew fc_X11_isSameAnew_76
  rw [r3.dn hn, Option.bind_some, x1]
  by_cases z : n = 0
  · obtain ⟨e1, e2, e3⟩ := k6 (by omega)
    rw [z] at x6 x7 x5 ⊢
    rw [if_pos rfl, if_pos rfl, x6, dr_mk x7.1, Option.bind_some, x7.2.2.1, e1]
    obtain ⟨σ1, u1, u2, u3, u4⟩ := fc_setUp_s (i := 0) (r := (g.t.st 0).rm) r1 r6 r8
    have hC1 : CR σ1 g := hC.sc u3 u4 u2
    obtain ⟨-, -, y2, -, -, y5, -⟩ := hC1.2.2.1.2.1 0 (by omega)
    refine ⟨σ1, ?_, hC1⟩
    show (fc_X3_setUp σ (some 0) (nI (g.t.st 0).rm)).bind _ = _
    rw [u1, Option.bind_some, hC1.2.2.1.dn (by omega), Option.bind_some, y2]
    rw [← e3] at u2
    rw [fc_isLike_s u2 y5, Option.bind_some]
    exact if_pos one1
  · have hpar := k3.2.1 n (by omega) hn
    have hpN : g.t.par n < g.t.N := by omega
    rw [if_neg z, if_neg (fun h => by cases h), r3.dn hpN, Option.bind_some]
    obtain ⟨-, -, p2, -, -, p5, -⟩ := r3.2.1 _ hpN
    obtain ⟨σ1, a1, a2, a3, a4⟩ := fc_copy_s (i := 0) (j := g.t.par n + 1) (by omega) p5 r8
    have hC1 : CR σ1 g := hC.sc a3 a4 a2
    rw [p2, a1, Option.bind_some, hC1.2.2.1.dn hn, Option.bind_some]
    obtain ⟨y0, y1, y2, y3, y4, y5, c', y6, y7⟩ := hC1.2.2.1.2.1 n hn
    rw [if_neg z] at y1
    obtain ⟨q1, q2, q3⟩ := k5 n (by omega) hn
    have hkn : sKnw (sKn g.t (g.t.par n)) (g.t.cm n) = true := by
      by_cases h12 : (g.t.cm n).1 < 12
      · exact (q3.1 h12).1
      · unfold sKnw
        rw [if_neg (by omega), if_neg (by omega)]
        rfl
    have hun : unQ (g.t.cm n) ∨ ∃ v h, 12 ≤ v ∧ v ≤ 14 ∧ g.t.cm n = (v, h, none) := by
      rcases q1 with h | ⟨v, h, h1, h2, h3, h4⟩
      · exact Or.inl (tyQ_un k1 h)
      · exact Or.inr ⟨v, some h, h1, h2, h4⟩
    rw [y6, y1, fc_known_s k3 hC1.2.2.1 hpN y7 hun, Option.bind_some, hkn]
    rw [if_neg (show ¬ bI true = 0 by decide), hC1.2.2.1.dn hn]
    obtain ⟨σ2, s', b1, b2, b3, b4, b5, b6⟩ := fc_anew_s hok hC1 (by omega) hn y7 a2
    have hC2 : CR σ2 g := hC1.sc b5 b6 b2
    show ∃ σ', (fc_X11_canDoAnew σ1 (cR σ1 7 n 2)).bind _ = _ ∧ _
    rw [y6, b1, Option.bind_some]
    obtain ⟨σ3, d1, d2, d3, d4⟩ := fc_burn_s k1 hC2.1 hC2.2.2.2.2.2.1 b4 b2
    have hC3 : CR σ3 g := hC2.sc d3 d4 d2
    obtain ⟨-, -, w2, -, -, w5, -⟩ := hC3.2.2.1.2.1 n hn
    refine ⟨σ3, ?_, hC3⟩
    refine (if_neg (show ¬ (1 : Int32) = 0 by decide)).trans ?_
    show ((fc_X3_burn σ2 (some 0)).bind _) = _
    rw [d1, Option.bind_some, hC3.2.2.1.dn hn, Option.bind_some, w2]
    rw [← b3] at d2
    rw [fc_isLike_s d2 w5, Option.bind_some]
    exact if_pos one1
theorem fc_sound_l (hok : Gm.ok g) : ∀ (d i n : Nat) (σ : cS), i + d = g.t.N → d < n → CR σ g → ∃ σ', fc_X11_isSound_2 n σ (nI i) = some (1, σ') ∧ CR σ' g := by
  obtain ⟨k1, k2, k3, hp, k5, k6⟩ := id hok
  have h80 := k3.1.1
  have hS80 : g.p.S ≤ 80 := Nat.le_trans hp.1.2 k3.1.1
  intro d
  induction d with
  | zero =>
    intro i n σ hi hn hC
    obtain ⟨n, rfl⟩ : ∃ m, n = m + 1 := ⟨n - 1, by omega⟩
    obtain ⟨r1, r2, r3, hCs, r5, r6, r7, s0, r8⟩ := id hC
    refine ⟨σ, ?_, hC⟩
    rw [show fc_X11_isSound_2 (n + 1) σ (nI i) = (fc_Jx4a65c_size_8abf5 σ (some 0)).bind fun r_1 => if r_1.1 ≤ nI i then ((fc_X5_isAnySoldTwice_2 3000 r_1.2 (nI 0)).bind fun r_2 => if r_2.1 = 0 then ((fc_X5_paid r_2.2).bind fun r_3 => if (r_3.1 + (cI r_3.2 5 0 4)) = ((100 : Int32) + (cI r_3.2 5 0 5)) then fc_X11_isSound_88 r_3.2 (1 : Int32) else fc_X11_isSound_87 r_3.2) else fc_X11_isSound_87 r_2.2) else _ from rfl]
    rw [r3.1.2.1.size, Option.bind_some]
    refine (if_pos (show nI g.t.N ≤ nI i by rw [jLe (by omega) (by omega)]; omega)).trans ?_
    show (fc_X5_isAnySoldTwice_2 3000 σ (nI 0)).bind _ = _
    rw [fc_twice_l k3 r3 hp hCs g.p.S 0 3000 (by omega) (by omega), Option.bind_some]
    refine (if_pos rfl).trans ?_
    show (fc_X5_paid σ).bind _ = _
    rw [fc_paid_s hS80 hCs, Option.bind_some]
    refine (if_pos (show g.p.paid g.p.S + cI σ 5 0 4 = 100 + cI σ 5 0 5 by rw [hCs.1.2.1, hCs.1.2.2.1]; exact hp.2.2.2.2.2.2)).trans ?_
    unfold fc_X11_isSound_88
    exact if_pos (show (1 : Int32) &&& 1 = 1 by decide)
  | succ d ih =>
    intro i n σ hi hn hC
    obtain ⟨n, rfl⟩ : ∃ m, n = m + 1 := ⟨n - 1, by omega⟩
    obtain ⟨r1, r2, r3, hCs, r5, r6, r7, s0, r8⟩ := id hC
    have hiN : i < g.t.N := by omega
    obtain ⟨σ1, a1, a2⟩ := fc_same_s hok hC hiN
    obtain ⟨σ', b1, b2⟩ := ih (i + 1) n σ1 (by omega) (by omega) a2
    refine ⟨σ', ?_, b2⟩
    rw [show fc_X11_isSound_2 (n + 1) σ (nI i) = (fc_Jx4a65c_size_8abf5 σ (some 0)).bind fun r_1 => if r_1.1 ≤ nI i then _ else (fc_Jx4a65c_get_915e3 r_1.2 (some 0) (nI i) 7).bind fun r_4 => if ¬ (lvq r_4.2 7 r_4.1 = true) then none else (fc_X11_isSameAnew r_4.2 r_4.1).bind fun r_5 => if r_5.1 = 0 then (if (0 : Int32) &&& 1 = (0 : Int32) then some ((0 : Int32), r_5.2) else none) else (fc_X11_isSound_2 n) r_5.2 (nI i + nI 1) from rfl]
    rw [r3.1.2.1.size, Option.bind_some]
    refine (if_neg (show ¬ nI g.t.N ≤ nI i by rw [jLe (by omega) (by omega)]; omega)).trans ?_
    show (fc_Jx4a65c_get_915e3 σ (some 0) (nI i) 7).bind _ = _
    rw [r3.1.2.1.get hiN (by omega), Option.bind_some]
    refine (if_neg (fun z => (r3.lv hiN).mp z)).trans ?_
    show (fc_X11_isSameAnew σ (some i)).bind _ = _
    rw [a1, Option.bind_some]
    refine (if_neg (show ¬ (1 : Int32) = 0 by decide)).trans ?_
    rw [jAdd]
    exact b1
theorem meth_isSound (hR : Rel g σ τ) : ∃ σ' τ', fc_X11_isSound σ = some (1, σ') ∧ fm_isSound τ = some (1, τ') ∧ Rel g σ' τ' := by
  have h80 := hR.1.2.2.1.1.1
  obtain ⟨σ', a1, a2⟩ := fc_sound_l hR.1 g.t.N 0 3000 σ (by omega) (by omega) hR.2.1
  exact ⟨σ', mI τ 0 0, a1, if_pos (show (1 : Int32) &&& 1 = 1 by decide), hR.1, a2, hR.2.2.th _⟩
end W20
