/-! To merge: both sides. -/
/-- the end of the reference's loop -/
def mgE (σ : mS) (x1 x2 : Int32) : Option (Int32 × mS) :=
  (fm_childBy σ (3 : Int32) x1).bind fun r_1 => if x2 ≤ 0 then fm_merge_159 r_1.2 x1 x2 r_1.1 else if r_1.1 = (-1 : Int32) then (if (r_1.2.1 33) = (80 : Int32) then fm_merge_168 r_1.2 x1 x2 r_1.1 (2 : Int32) else fm_merge_159 r_1.2 x1 x2 r_1.1) else fm_merge_159 r_1.2 x1 x2 r_1.1
section N20
variable {g : Gm} {σ σ1 : cS} {τ τ1 : mS} {w : Wd}
theorem sPk_le {t : St} {li : Bool} : ∀ (d x k : Nat) (s : St), (sPk w t li d x k s).1 ≤ k + d := by
  intro d
  induction d with
  | zero => intro x k s; exact Nat.le_refl _
  | succ d ih =>
    intro x k s
    unfold sPk
    split
    · split
      · exact Nat.le_trans (ih _ _ _) (by omega)
      · exact Nat.le_trans (ih _ _ _) (by omega)
    · exact Nat.le_trans (ih _ _ _) (by omega)
theorem fm_merge_l {t0 : St} {m : Nat} {li : Bool} (hw : Wd.ok w) (ht0 : St.ok w t0) (hm80 : m < 80) : ∀ (d x k n : Nat) (τ : mS) (s : St), x + d = w.T → d < n → MWd τ w → St.ok w s → MSt τ w.T s → (∀ y, y < w.T → τ.2.2.1 22 (12 * m + y) = nI (t0.pl y)) → ∃ τ', fm_merge_51 n τ (nI m) (nI k) (bI li) (nI x) = mgE τ' (nI m) (nI (sPk w t0 li d x k s).1) ∧ MSt τ' w.T (sPk w t0 li d x k s).2 ∧ mFr [36] τ τ' := by
  have hT : w.T ≤ 12 := hw.1.2.2.1
  have hR := hw.1.2.1
  intro d
  induction d with
  | zero =>
    intro x k n τ s hx hn hW hs hm hp
    obtain ⟨n, rfl⟩ : ∃ m, n = m + 1 := ⟨n - 1, by omega⟩
    refine ⟨τ, ?_, hm, mFr.rf _ _⟩
    rw [show fm_merge_51 (n + 1) τ (nI m) (nI k) (bI li) (nI x) = if (τ.1 16) ≤ nI x then mgE τ (nI m) (nI k) else _ from rfl]
    rw [hW.1.2.2.1, if_pos (show nI w.T ≤ nI x by rw [jLe (by omega) (by omega)]; omega)]
    rfl
  | succ d ih =>
    intro x k n τ s hx hn hW hs hm hp
    obtain ⟨n, rfl⟩ : ∃ m, n = m + 1 := ⟨n - 1, by omega⟩
    have h36 := (hm.2 x (by omega)).1
    have hpx := hp x (by omega)
    have skip : ∃ τ', fm_merge_121 (fm_merge_51 n) τ (nI m) (nI k) (bI li) (nI x) = mgE τ' (nI m) (nI (sPk w t0 li d (x + 1) k s).1) ∧ MSt τ' w.T (sPk w t0 li d (x + 1) k s).2 ∧ mFr [36] τ τ' := by
      unfold fm_merge_121
      rw [n1, jAdd]
      exact ih (x + 1) k n τ s (by omega) (by omega) hW hs hm hp
    rw [show fm_merge_51 (n + 1) τ (nI m) (nI k) (bI li) (nI x) = if (τ.1 16) ≤ nI x then mgE τ (nI m) (nI k) else if bI li = 0 then fm_merge_121 (fm_merge_51 n) τ (nI m) (nI k) (bI li) (nI x) else if (((12 : Int32) * nI m) + nI x) < 0 ∨ 960 ≤ (((12 : Int32) * nI m) + nI x).toNatClampNeg then none else if (τ.2.2.1 22 (((12 : Int32) * nI m) + nI x).toNatClampNeg) = (100 : Int32) then (if nI x < 0 ∨ 12 ≤ (nI x).toNatClampNeg then none else if (τ.2.2.1 36 (nI x).toNatClampNeg) = (τ.1 35) then ((fm_weightWith τ (nI x)).bind fun r_2 => if r_2.1 ≤ (12 : Int32) then (if nI x < 0 ∨ 12 ≤ (nI x).toNatClampNeg then none else fm_merge_121 (fm_merge_51 n) (mA r_2.2 36 (nI x).toNatClampNeg (100 : Int32)) (nI m) (nI k + (1 : Int32)) (bI li) (nI x)) else fm_merge_121 (fm_merge_51 n) r_2.2 (nI m) (nI k) (bI li) (nI x)) else fm_merge_121 (fm_merge_51 n) τ (nI m) (nI k) (bI li) (nI x)) else fm_merge_121 (fm_merge_51 n) τ (nI m) (nI k) (bI li) (nI x) from rfl]
    rw [hW.1.2.2.1, if_neg (show ¬ nI w.T ≤ nI x by rw [jLe (by omega) (by omega)]; omega), bI_if, n12, jMul, jAdd, if_neg (iN0 (show 12 * m + x < 960 by omega) (by omega)), jCl (show 12 * m + x < 100000 by omega), hpx, n100]
    have hpl : t0.pl x < 1000 := by have := (ht0.2.1 x (by omega)).1; omega
    have hps : s.pl x < 1000 := by have := (hs.2.1 x (by omega)).1; omega
    have hrm := hs.1
    have e1 : (nI (t0.pl x) = nI 100) = (t0.pl x = 100) := propext (jEq (by omega) (by omega))
    simp only [e1]
    unfold sPk
    by_cases q1 : li = true
    · rw [if_pos q1]
      by_cases q2 : t0.pl x = 100
      · rw [if_pos q2, if_neg (iN0 (show x < 12 by omega) (by omega)), jCl (show x < 100000 by omega), h36, hm.1]
        by_cases q3 : s.pl x = s.rm
        · have hwt := fm_weightWith_s hw hW hs hm (m := some x) (fun b hb => by cases hb; omega)
          rw [show oI (some x) = nI x from rfl] at hwt
          rw [if_pos (show nI (s.pl x) = nI s.rm by rw [q3]), hwt, Option.bind_some, if_pos (show li = true ∧ t0.pl x = 100 ∧ s.pl x = s.rm from ⟨q1, q2, q3⟩)]
          have hle := sWeight_le hw s (some x)
          have ne : ¬ s.pl x = 100 := by omega
          by_cases q4 : sWeight w s (some x) ≤ 12
          · have et : sTake w s x = some (sPut s x 100) := if_neg (fun z => by omega)
            rw [et]
            rw [if_pos (show nI (sWeight w s (some x)) ≤ nI 12 by rw [jLe (by omega) (by omega)]; exact q4), if_neg (iN1 (show x < 12 by omega) (by omega))]
            unfold fm_merge_121
            rw [n1, jAdd, jAdd]
            obtain ⟨τ', a1, a2, a3⟩ := ih (x + 1) (k + 1) n (mA τ 36 x (nI 100)) (sPut s x 100) (by omega) (by omega) (hW.fr (mFr.A (k := 36) (List.mem_singleton.mpr rfl)) (by decide)) (sPut_ok hs (by omega) (Or.inr (Or.inl rfl)) (by omega)) hm.uPl (fun y hy => hp y hy)
            exact ⟨τ', a1, a2, (mFr.A (List.mem_singleton.mpr rfl)).tr a3⟩
          · have et : sTake w s x = none := if_pos (Or.inr (by omega))
            rw [et]
            rw [if_neg (show ¬ nI (sWeight w s (some x)) ≤ nI 12 by rw [jLe (by omega) (by omega)]; exact q4)]
            exact skip
        · rw [if_neg (show ¬ nI (s.pl x) = nI s.rm by rw [jEq (by omega) (by omega)]; exact q3), if_neg (fun z => q3 z.2.2)]
          exact skip
      · rw [if_neg q2, if_neg (fun z => q2 z.2.1)]
        exact skip
    · rw [if_neg q1, if_neg (fun z => q1 z.1)]
      exact skip
theorem meth_merge (hR : Rel g σ τ) (v : Int32) : Alk [4, 2, 3] g (fc_X11_merge σ v) (fm_merge τ v) := by
  obtain ⟨hok, hCR, hMR⟩ := id hR
  obtain ⟨k1, k2, k3, hp, k5, k6⟩ := id hok
  obtain ⟨r1, r2, r3, hC, r5, r6, r7, s0, r8⟩ := id hCR
  obtain ⟨m1, m2, m3, m4, m5, hM⟩ := id hMR
  have hMR0 := mr0 hMR
  obtain ⟨n1', n2, n3, n4, n5, n6'⟩ := id hMR0
  have h80 := k3.1.1
  have bad : ∀ k, 0 < k → k < 1000 → fm_merge_25 τ v (nI k) = some (0, mI τ 0 (nI k)) := fun k h1 h2 => by
    unfold fm_merge_25
    rw [wrong_s τ (by omega) h1]
    exact if_neg nz1
  unfold fc_X11_merge fm_merge
  rw [fc_nodeOf_s r3 h80, xb_if, fm_isNode_s m3 h80, Option.bind_some, bI_if]
  refine Alk.ite (fun qx => ?_) fun _ => Alk.x (c := 4) (j := 0) (v := 0) hR rfl (bad 1 (by omega) (by omega)) rfl
  obtain ⟨m, rfl, hm⟩ := vIn_ex (by omega) qx
  have h0 : 0 < g.t.N := by omega
  have hn := k3.1.2.1 h0
  show Alk [4, 2, 3] g (xb (fc_X11_needPlay σ) _) (if τ.1 20 = 0 then _ else _)
  rw [fc_needPlay_s r3 k3.1.1, xb_ifN, begun_if m3, if_neg (show ¬ g.t.N = 0 by omega), if_neg (show ¬ g.t.N = 0 by omega), fc_current_s k3 r3 h0, Option.bind_some]
  obtain ⟨dc, σ1, c1, c2, c3, c4⟩ := copyHere hCR h0 hok
  rw [show dr σ 7 (some g.t.now) = some g.t.now from dc, Option.bind_some]
  show Alk [4, 2, 3] g ((fc_X6_copy σ (some 0) (cR σ 7 g.t.now 3)).bind _) _
  rw [c1, Option.bind_some, jCl (by omega), c3.2.2.1.dn hm, Option.bind_some]
  have hst := (k3.2.2.1 _ hn).1
  have hstm := (k3.2.2.1 _ hm).1
  obtain ⟨-, -, y2, -, -, y5, -⟩ := c3.2.2.1.2.1 _ hm
  obtain ⟨σ2, p1, p2, p3, p4⟩ := fc_pickUpAsIn_s k1 c3.1 c3.2.2.2.2.2.1 hst hstm (show 0 ≠ m + 1 by omega) c2 y5
  have hC2 : CR σ2 g := c3.sc p3 p4 p2
  obtain ⟨P, hP⟩ : ∃ P, P = sPk g.w (g.t.st m) (sLight g.w (g.t.st g.t.now)) g.w.T 0 0 (g.t.st g.t.now) := ⟨_, rfl⟩
  rw [← hP] at p1 p2
  have hPle : P.1 ≤ 12 := by
    have := sPk_le (w := g.w) (t := g.t.st m) (li := sLight g.w (g.t.st g.t.now)) g.w.T 0 0 (g.t.st g.t.now)
    have hT := k1.1.2.2.1
    rw [hP]
    omega
  rw [y2, p1, Option.bind_some]
  -- the reference's side
  obtain ⟨τ1, t1, t2, t3, t4⟩ := fm_takesUp_s k1 n1' (show g.t.now < 80 by omega) (n3.2 _ hn).2.2
  have hM1 : MR τ1 g := hMR0.fr t4 (by decide)
  obtain ⟨τ2, a1, a2, a3⟩ := fm_merge_l (t0 := g.t.st m) (m := m) (li := sLight g.w (g.t.st g.t.now)) k1 hstm (by omega) g.w.T 0 0 3000 τ1 (g.t.st g.t.now) (by omega) (by have := k1.1.2.2.1; omega) hM1.1 hst t2 (fun y hy => ((hM1.2.2.1.2 m hm).2.2.2 y hy).1)
  rw [← hP] at a1 a2
  have hM2 : MR τ2 g := hM1.fr a3 (by decide)
  have e20 : τ2.1 0 = nI 0 := by rw [(a3 0 (by decide)).1, (t4 0 (by decide)).1]; exact mI_at _ _ _
  have e39 : τ2.2.1 39 = 0 := by rw [(a3 39 (by decide)).2.1]; exact t3
  obtain ⟨q, hq⟩ : ∃ q : Cm, q = (14, some m, none) := ⟨_, rfl⟩
  have hq1 : q.1 = 14 := by rw [hq]
  have hcm : cmQ g.w q := Or.inr ⟨14, m, by omega, by omega, by omega, hq⟩
  have hch : fm_childBy τ2 3 (nI m) = some (oI (sChd g.t q), τ2) := by
    rw [hq]
    exact fm_child_sp k3 hM2.2.2.1 h0 hM2.2.2.2.1 (v := 14) (by omega) (by omega) (by omega)
  have em : fm_merge_25 τ (nI m) 0 = mgE τ2 (nI m) (nI P.1) := by
    unfold fm_merge_25
    rw [show fm_isWrong τ 0 = fm_isWrong τ (nI 0) from rfl, right_s]
    show (if nI 0 = 0 then (fm_takesUp (mI τ 0 (nI 0)) ((mI τ 0 (nI 0)).1 34)).bind _ else _) = _
    rw [if_pos (show nI 0 = 0 from rfl), n3.1.2.1, t1, Option.bind_some, fm_isBrightHere_s k1 hM1.1 hst t2, Option.bind_some]
    exact a1
  rw [em]
  unfold mgE
  rw [hch, Option.bind_some]
  have bad2 : ∀ ch k, 0 < k → k < 1000 → fm_merge_168 τ2 (nI m) (nI P.1) ch (nI k) = some (0, mI τ2 0 (nI k)) := fun ch k h1 h2 => by
    unfold fm_merge_168
    rw [wrong_s _ (by omega) h1]
    exact if_neg nz1
  by_cases z : P.1 = 0
  · rw [if_pos (show nI P.1 = 0 by rw [z]; rfl), if_pos (show nI P.1 ≤ 0 by rw [z]; decide)]
    unfold fm_merge_159
    rw [if_pos (show nI P.1 = 0 by rw [z]; rfl)]
    exact Alk.x' (c := 3) (j := 2) (v := 0) (τ2 := mI τ2 0 (nI 3)) hok hC2 (hM2.th _) rfl (bad2 _ 3 (by omega) (by omega)) (mI_at _ _ _) rfl
  · have nz : ¬ nI P.1 = 0 := fun h => z ((jEq (b := 0) (by omega) (by omega)).mp h)
    rw [if_neg nz, if_neg (show ¬ nI P.1 ≤ 0 from fun h => z ((jLe0 (by omega)).mp h))]
    obtain ⟨dr1, σ3, e1, e2, e3, e3'⟩ := newCm hC2 (v := 14) (a := nI m) (x := some m) (by omega) rfl
    rw [← hq] at e2
    rw [show dr (uN σ2 8 0 0) 8 (some (cn σ2 8)) = some (cn σ2 8) from dr1, Option.bind_some]
    show Alk [4, 2, 3] g ((fc_X1_init (uN σ2 8 0 0) (some (cn σ2 8)) (some 14) (nI m) (-1)).bind _) _
    rw [e1, Option.bind_some, fc_needNode_s k1 k3 e3.2.2.1 (fun n a b => (k5 n a b).1) e3.2.2.2.2.2.2.1 h0 hcm e2, xb_ifN]
    have hs : St.ok g.w P.2 := by rw [hP]; exact sPk_ok _ _ _ _ (by omega) hst
    have h6 : RSt σ3 0 P.2 := p2.fr (e3' []) (fun q hq => absurd hq (List.not_mem_nil))
    have hrp : rplQ g.w g.t P.2 q := ⟨fun z => by omega, fun z => by omega, fun _ => ⟨m, by rw [hq], hm, by rw [← hP]; omega, by rw [← hP]⟩⟩
    have go : ¬ (g.t.N = 80 ∧ sChd g.t q = none) → Alk [4, 2, 3] g ((fc_X11_follow σ3 (some (cn σ2 8))).bind fun r_13 => some (.inr (nI P.1), r_13)) (fm_merge_159 τ2 (nI m) (nI P.1) (oI (sChd g.t q))) := by
      intro hfull
      have hN : sChd g.t q = none → g.t.N < 80 := fun e => by
        have : ¬ g.t.N = 80 := fun z => hfull ⟨z, e⟩
        omega
      obtain ⟨σ4, d1, d2, -⟩ := CR.fol e3 h0 hok hcm (fun _ h13 => by omega) e2 hs h6 hN
      rw [d1, Option.bind_some]
      have hok' := hok.fol (s := P.2) h0 hN hcm (fun _ h13 => by omega) hrp (by omega)
      unfold fm_merge_159 fm_merge_168 fm_merge_197
      rw [if_neg nz, show fm_isWrong τ2 0 = fm_isWrong τ2 (nI 0) from rfl, right_s]
      have hM3 : MR (mI τ2 0 (nI 0)) g := hM2.th _
      cases e : sChd g.t q with
      | none =>
        have ha2 : MSt (mI τ2 0 (nI 0)) g.w.T P.2 := a2.fr (ks := [0]) (mFr.I (by decide)) (by decide)
        obtain ⟨τ4, y1, y2, y3, y4, -⟩ := MR.come (s := P.2) (q := q) hM3 h0 hok ha2 hs (hN e) hcm (fun z => by omega) (by
          show τ2.2.1 39 = _
          rw [e39, hq]; rfl) e
        have hk : kdQ q.1 = 3 := by rw [hq1]; rfl
        rw [hk, if_neg (by omega), show oI q.2.1 = nI m by rw [hq]; rfl] at y1
        refine ⟨_, .inr _, σ4, nI P.1, τ4, rfl, ?_, ?_, hok', d2, y2⟩
        · show (if nI 0 = 0 then (if oI none = (-1 : Int32) then (fm_comes (mI τ2 0 (nI 0)) (3 : Int32) (nI m)).bind _ else _) else _) = _
          rw [if_pos (show nI 0 = 0 from rfl), if_pos (show oI none = (-1 : Int32) from rfl), show (3 : Int32) = nI 3 from rfl, y1, Option.bind_some]
        · rw [(y3 0 (by decide)).1, mI_at]
          exact Agr.v
      | some n =>
        have hnn := sChd_lt h0 e
        refine ⟨_, .inr _, σ4, nI P.1, mI (mI τ2 0 (nI 0)) 34 (nI n), rfl, ?_, ?_, hok', d2, hM3.went e⟩
        · show (if nI 0 = 0 then (if oI (some n) = (-1 : Int32) then _ else some (nI P.1, mI (mI τ2 0 (nI 0)) 34 (oI (some n)))) else _) = _
          rw [if_pos (show nI 0 = 0 from rfl), if_neg (show ¬ oI (some n) = (-1 : Int32) from fun z => (jM1 (a := n) (by omega)).mp z)]
          rfl
        · rw [mI_ne _ _ (by decide), mI_at]
          exact Agr.v
    cases e : sChd g.t q with
    | none =>
      rw [e] at go
      rw [if_pos (show oI none = (-1 : Int32) from rfl), hM2.2.2.1.1.1]
      by_cases zf : g.t.N = 80
      · rw [if_pos ⟨zf, rfl⟩, if_pos (show nI g.t.N = (80 : Int32) by rw [zf]; rfl)]
        exact Alk.x' (c := 2) (j := 1) (v := 0) (τ2 := mI τ2 0 (nI 2)) hok e3 (hM2.th _) rfl (bad2 _ 2 (by omega) (by omega)) (mI_at _ _ _) rfl
      · rw [if_neg (fun z => zf z.1), if_neg (show ¬ nI g.t.N = (80 : Int32) from fun z => zf ((jEq (b := 80) (by omega) (by omega)).mp z))]
        exact go (fun z => zf z.1)
    | some n =>
      rw [e] at go
      have hnn := sChd_lt h0 e
      rw [if_neg (fun z => by cases z.2), if_neg (show ¬ oI (some n) = (-1 : Int32) from fun z => (jM1 (a := n) (by omega)).mp z)]
      exact go (fun z => by cases z.2)
end N20
