/-! To begin: both sides. -/
/-- the end of the reference's loop -/
def bgE (σ : mS) : Option (Int32 × mS) := (fm_comes (mI σ 2 (0 : Int32)) (0 : Int32) (0 : Int32)).bind fun r_1 => (fm_knownMany (mI r_1 2 (σ.1 2))).bind fun r_2 => some (r_2.1, r_2.2)
section R20
variable {g : Gm} {σ σ1 : cS} {τ τ1 : mS} {w : Wd}
theorem fm_begin_l (hw : Wd.ok w) : ∀ (d x n : Nat) (τ : mS), x + d = w.T → d < n → MWd τ w → (∀ y, y < x → τ.2.2.1 36 y = nI (w.lies y) ∧ τ.2.2.1 38 y = nI (w.fu0 y) ∧ τ.2.2.1 37 y = nI 0) → ∃ τ', fm_begin_50 n τ (nI x) = bgE τ' ∧ (∀ y, y < w.T → τ'.2.2.1 36 y = nI (w.lies y) ∧ τ'.2.2.1 38 y = nI (w.fu0 y) ∧ τ'.2.2.1 37 y = nI 0) ∧ mFr [36, 37, 38] τ τ' := by
  have hT : w.T ≤ 12 := hw.1.2.2.1
  intro d
  induction d with
  | zero =>
    intro x n τ hx hn hW hy
    obtain ⟨n, rfl⟩ : ∃ m, n = m + 1 := ⟨n - 1, by omega⟩
    refine ⟨τ, ?_, fun y h => hy y (by omega), mFr.rf _ _⟩
    rw [show fm_begin_50 (n + 1) τ (nI x) = if (τ.1 16) ≤ nI x then bgE τ else _ from rfl]
    rw [hW.1.2.2.1, if_pos (show nI w.T ≤ nI x by rw [jLe (by omega) (by omega)]; omega)]
  | succ d ih =>
    intro x n τ hx hn hW hy
    obtain ⟨n, rfl⟩ : ∃ m, n = m + 1 := ⟨n - 1, by omega⟩
    obtain ⟨-, e11, -, -, e14⟩ := hW.2.2.2.2.2.1 x (by omega)
    have i12 : ¬ (nI x < 0 ∨ 12 ≤ (nI x).toNatClampNeg) := iN0 (show x < 12 by omega) (by omega)
    rw [show fm_begin_50 (n + 1) τ (nI x) = if (τ.1 16) ≤ nI x then bgE τ else if nI x < 0 ∨ 12 ≤ (nI x).toNatClampNeg then none else if nI x < 0 ∨ 12 ≤ (nI x).toNatClampNeg then none else if nI x < 0 ∨ 12 ≤ (nI x).toNatClampNeg then none else if nI x < 0 ∨ 12 ≤ (nI x).toNatClampNeg then none else if nI x < 0 ∨ 12 ≤ (nI x).toNatClampNeg then none else (fm_begin_50 n) (mA (mA (mA τ 36 (nI x).toNatClampNeg (τ.2.2.1 11 (nI x).toNatClampNeg)) 37 (nI x).toNatClampNeg ((0 : Int32) &&& 1)) 38 (nI x).toNatClampNeg ((mA (mA τ 36 (nI x).toNatClampNeg (τ.2.2.1 11 (nI x).toNatClampNeg)) 37 (nI x).toNatClampNeg ((0 : Int32) &&& 1)).2.2.1 14 (nI x).toNatClampNeg)) (nI x + (1 : Int32)) from rfl]
    rw [hW.1.2.2.1, if_neg (show ¬ nI w.T ≤ nI x by rw [jLe (by omega) (by omega)]; omega), if_neg i12, if_neg i12, if_neg i12, if_neg i12, if_neg i12, jCl (by omega), show (0 : Int32) &&& 1 = nI 0 by decide, mA_ne _ _ _ (by decide), mA_ne _ _ _ (by decide), e11, e14, show nI x + 1 = nI (x + 1) from jAdd x 1]
    obtain ⟨τ', a1, a2, a3⟩ := ih (x + 1) n (mA (mA (mA τ 36 x (nI (w.lies x))) 37 x (nI 0)) 38 x (nI (w.fu0 x))) (by omega) (by omega) (hW.fr (ks := [36, 37, 38]) (((mFr.A (by decide)).tr (mFr.A (by decide))).tr (mFr.A (by decide))) (by decide)) (fun y hy2 => by
      have z36 : (mA (mA (mA τ 36 x (nI (w.lies x))) 37 x (nI 0)) 38 x (nI (w.fu0 x))).2.2.1 36 y = if y = x then nI (w.lies x) else τ.2.2.1 36 y := by
        rw [mA_ne _ _ _ (by decide), mA_ne _ _ _ (by decide), mA_at]
      have z37 : (mA (mA (mA τ 36 x (nI (w.lies x))) 37 x (nI 0)) 38 x (nI (w.fu0 x))).2.2.1 37 y = if y = x then nI 0 else τ.2.2.1 37 y := by
        rw [mA_ne _ _ _ (by decide), mA_at, mA_ne _ _ _ (by decide)]
      have z38 : (mA (mA (mA τ 36 x (nI (w.lies x))) 37 x (nI 0)) 38 x (nI (w.fu0 x))).2.2.1 38 y = if y = x then nI (w.fu0 x) else τ.2.2.1 38 y := by
        rw [mA_at, mA_ne _ _ _ (by decide), mA_ne _ _ _ (by decide)]
      rw [z36, z37, z38]
      by_cases z : y = x
      · rw [if_pos z, if_pos z, if_pos z, z]
        exact ⟨rfl, rfl, rfl⟩
      · rw [if_neg z, if_neg z, if_neg z]
        exact hy y (by omega))
    exact ⟨τ', a1, a2, (((mFr.A (by decide)).tr (mFr.A (by decide))).tr (mFr.A (by decide))).tr a3⟩
theorem meth_begin (hR : Rel g σ τ) (v : Int32) : Alk [4, 2] g (fc_X11_begin σ v) (fm_begin τ v) := by
  obtain ⟨hok, hCR, hMR⟩ := id hR
  obtain ⟨k1, k2, k3, hp, k5, k6⟩ := id hok
  obtain ⟨r1, r2, r3, hC, r5, r6, r7, s0, r8⟩ := id hCR
  obtain ⟨m1, m2, m3, m4, m5, hM⟩ := id hMR
  have bad : ∀ k, 0 < k → k < 1000 → fm_begin_25 τ v (nI k) = some (0, mI τ 0 (nI k)) := fun k h1 h2 => by
    unfold fm_begin_25
    rw [wrong_s τ (by omega) h1]
    exact if_neg nz1
  unfold fc_X11_begin fm_begin
  rw [fc_needRoom_s k1 r1, xb_if, fm_isRoom_s k1 m1, Option.bind_some, bI_if]
  refine Alk.ite (fun qr => ?_) fun _ => Alk.x (c := 4) (j := 0) (v := 0) hR rfl (bad 1 (by omega) (by omega)) rfl
  show Alk [4, 2] g (xb (fc_X11_needNoPlay σ) _) (if τ.1 20 = 0 then _ else _)
  rw [fc_needNoPlay_s r3 k3.1.1, xb_ifP, begun_if m3]
  refine Alk.ite (fun h0 => ?_) fun _ => Alk.x (c := 2) (j := 1) (v := 0) hR rfl (bad 2 (by omega) (by omega)) rfl
  have hR12 := k1.1.2.1
  obtain ⟨r, rfl, hr⟩ := vIn_ex (by omega) qr
  have hnow := k3.1.2.2 h0
  have hS0 : g.p.S = 0 := by have := hp.1.2; omega
  obtain ⟨s, hs⟩ : ∃ s, s = sStart g.w r := ⟨_, rfl⟩
  have hst : St.ok g.w s := by rw [hs]; exact sStart_ok k1 hr
  obtain ⟨q, hq⟩ : ∃ q : Cm, q = (0, some r, none) := ⟨_, rfl⟩
  obtain ⟨sg, hsg⟩ : ∃ sg, sg = sShown g.w s := ⟨_, rfl⟩
  obtain ⟨t', ht'⟩ : ∃ t', t' = tAdd g.t s sg q := ⟨_, rfl⟩
  have tN : t'.N = 1 := by rw [ht', tAdd_N, h0]
  have tn : t'.now = 0 := by rw [ht', tAdd_now, h0]
  have hok3 : Tr.ok g.w t' := by rw [ht']; exact tAdd_ok k3 (by omega) hst (by rw [hsg]; exact sShown_wset k1 _)
  -- the class
  obtain ⟨σ1, u1, u2, u3, u4⟩ := fc_setUp_s (i := 0) (r := r) r1 r6 r8
  rw [← hs] at u2
  have hC1 : CR σ1 g := hCR.sc u3 u4 u2
  obtain ⟨dr1, σ2, e1, e2, e3, e3'⟩ := newCm hC1 (v := 0) (a := nI r) (x := some r) (by omega) rfl
  rw [← hq] at e2
  have h6 : RSt σ2 0 s := u2.fr (e3' []) (fun q hq => absurd hq (List.not_mem_nil))
  obtain ⟨b1, b2, b3, b4, b5, b6, b7, -⟩ := id e3
  obtain ⟨σ3, d1, d2, d3, ⟨ee, d4, d5⟩, d6⟩ := fc_add_s (sg := sg) k3 b3 b6 b5.1 (by omega) e2 h6
  have etr : tAt (tAdd g.t s sg q) g.t.now = t' := by
    rw [ht', hnow]
    unfold tAt tAdd
    rw [h0]
  rw [etr] at d2
  have hC3 : CR σ3 (g.w, g.l, t', g.p) := by
    refine ⟨b1.fr b6 d5 (fun q hq => ?_), b2.fr b6 d5 (by simp) (by simp), d2, b4.fr d5 b6 (by simp) (by simp) (by simp) (by simp) (fun e' he' => ?_) (fun s _ => by simp) (d6 9 (by decide)), ⟨d3, b5.2.fr b6 d5 (fun q hq => by simp at hq; rcases hq with rfl | rfl | rfl <;> simp)⟩, b6.fr d5, by rw [d6 18 (by decide)]; exact b7, s, h6.fr d5 (fun q hq => ?_)⟩
    · unfold cWk
      simp at hq
      rcases hq with rfl | rfl | rfl <;> simp
    · have : e' ≠ ee := fun z => d4 (by rw [he', z])
      simp
      exact this
    · simp at hq
      unfold cSc
      rcases hq with rfl | rfl | rfl <;> simp
  have ecl : (fc_X3_setUp σ (some 0) (nI r)).bind (fun r_3 => (dr (uN r_3 8 0 0) 8 (some (cn r_3 8))).bind fun i_8 => (fc_X1_init (uN r_3 8 0 0) (some (cn r_3 8)) (some 0) (nI r) (-1 : Int32)).bind fun r_7 => (fc_X3_wordsShown r_7 (some 0)).bind fun r_9 => (fc_X8_add r_9.2 (some (cn r_3 8)) (some 0) r_9.1).bind fun r_10 => (fc_X11_wordsKnown r_10.2).bind fun r_12 => some ((Sum.inr r_12.1 : Nat ⊕ Int32), r_12.2)) = some (Sum.inr (nI (sBits (sKn t' t'.now))), σ3) := by
    rw [u1, Option.bind_some, dr1, Option.bind_some, e1, Option.bind_some, fc_wordsShown_s k1 b1 hst h6, Option.bind_some]
    show (fc_X8_add σ2 (some (cn σ1 8)) (some 0) (sShown g.w s)).bind _ = _
    rw [← hsg, d1, Option.bind_some]
    show (fc_X11_wordsKnown σ3).bind _ = _
    rw [fc_wordsKnown_s k1 hok3 d2 (by omega), Option.bind_some]
  refine (congrArg (fun z => Alk [4, 2] g z _) ecl).mpr ?_
  -- the reference
  obtain ⟨τb, hτb⟩ : ∃ τb, τb = mJ (mI (mI (mI τ 0 (nI 0)) 20 (nI 1)) 35 (nI r)) 39 (0 : Int64) := ⟨_, rfl⟩
  have fb : mFr [0, 20, 35, 39] τ τb := by rw [hτb]; exact (((mFr.I (by decide)).tr (mFr.I (by decide))).tr (mFr.I (by decide))).tr (mFr.J (by decide))
  have mb : MWd τb g.w := m1.fr fb (by decide)
  obtain ⟨τc, a1, a2, a3⟩ := fm_begin_l k1 g.w.T 0 3000 τb (by omega) (by have := k1.1.2.2.1; omega) mb (fun y hy => by omega)
  have mc : MWd τc g.w := mb.fr a3 (by decide)
  obtain ⟨τd, hτd⟩ : ∃ τd, τd = mI τc 2 (0 : Int32) := ⟨_, rfl⟩
  have fd : mFr [2] τc τd := by rw [hτd]; exact mFr.I (by decide)
  have md : MWd τd g.w := mc.fr fd (by decide)
  have fall : mFr [0, 2, 20, 35, 36, 37, 38, 39] τ τd := ((fb.wk (by decide)).tr (a3.wk (by decide))).tr (fd.wk (by decide))
  have hms : MSt τd g.w.T s := by
    refine ⟨?_, fun y hy => ?_⟩
    · rw [(fd 35 (by decide)).1, (a3 35 (by decide)).1, hτb, hs]
      show (mI (mI (mI τ 0 (nI 0)) 20 (nI 1)) 35 (nI r)).1 35 = _
      rw [mI_at]
      rfl
    · rw [(fd 36 (by decide)).2.2.1, (fd 37 (by decide)).2.2.1, (fd 38 (by decide)).2.2.1, hs]
      exact a2 y hy
  have z : ∀ {P : Prop} {n : Nat}, n < g.t.N → P := fun h => by omega
  obtain ⟨τe, f1, ⟨f2, f3⟩, f4, f5, f6, f7, f8⟩ := fm_comes_s (l := []) (s := s) (t := g.t) (q := q) (sg := sg) k1 md ⟨Nat.zero_le _, fun c h => by cases h⟩ ⟨by rw [hτd, mI_at]; rfl, fun k hk => absurd hk (Nat.not_lt_zero k)⟩ k3 hst hms (by omega) (by rw [(fall 33 (by decide)).1]; exact m3.1.1) (by rw [(fall 34 (by decide)).1]; exact m3.1.2.1) (fun n h => z h) (fun n _ h => z h) (fun n h => z h) (by
    rw [hsg, (fd 39 (by decide)).2.1, (a3 39 (by decide)).2.1, hτb, show sNew g.w g.t s = s from if_pos h0]
    show _ = (0 : Int64) ||| _
    rw [Int64.zero_or]) (fun h => by omega)
  rw [show sNew g.w g.t s = s from if_pos h0, ← ht'] at f4 f5 f6
  have hq0 : kdQ q.1 = 0 ∧ (if q.1 < 12 then nI 0 else oI q.2.1) = nI 0 := by rw [hq]; exact ⟨rfl, rfl⟩
  rw [hq0.1, hq0.2] at f1
  obtain ⟨τf, hτf⟩ : ∃ τf, τf = mI τe 2 (τc.1 2) := ⟨_, rfl⟩
  have ff : mFr [2] τe τf := by rw [hτf]; exact mFr.I (by decide)
  have e20 : τe.1 20 = nI 1 := by
    rw [(f7 20 (by decide)).1, (fd 20 (by decide)).1, (a3 20 (by decide)).1, hτb]
    show (mI (mI (mI τ 0 (nI 0)) 20 (nI 1)) 35 (nI r)).1 20 = _
    rw [mI_ne _ _ (by decide), mI_at]
  have hMT : MTr τf g.w t' := by
    refine ⟨⟨?_, ?_, ?_⟩, f4.fr ff (by decide)⟩
    · rw [(ff 33 (by decide)).1, f2, tN, h0]
    · rw [(ff 34 (by decide)).1, f3, tn, h0]
    · rw [(ff 20 (by decide)).1, e20, tN]; rfl
  have em : fm_begin_25 τ (nI r) 0 = some (nI (sBits (sKn t' t'.now)), τf) := by
    unfold fm_begin_25
    rw [show fm_isWrong τ 0 = fm_isWrong τ (nI 0) from rfl, right_s]
    show (if nI 0 = 0 then (if ¬ ((1 : Int32) &&& 1 = (1 : Int32)) then none else fm_begin_50 3000 (mJ (mI (mI (mI τ 0 (nI 0)) 20 (nI 1)) 35 (nI r)) 39 (0 : Int64)) (nI 0)) else _) = _
    rw [if_pos (show nI 0 = 0 from rfl), if_neg (show ¬ ¬ ((1 : Int32) &&& 1 = (1 : Int32)) by decide), ← hτb, a1]
    unfold bgE
    rw [← hτd, show (0 : Int32) = nI 0 from rfl, f1, Option.bind_some, ← hτf, fm_known_many hok3 hMT (by omega), Option.bind_some]
  have fin : mFr [0, 2, 20, 21, 22, 23, 24, 25, 26, 27, 28, 29, 30, 31, 32, 33, 34, 35, 36, 37, 38, 39] τ τf := ((fall.wk (by decide)).tr (f7.wk (by decide))).tr (ff.wk (by decide))
  have e2' : τf.1 2 = τ.1 2 := by
    rw [hτf, mI_at, (a3 2 (by decide)).1, (fb 2 (by decide)).1]
  refine ⟨(g.w, g.l, t', g.p), .inr _, σ3, _, τf, rfl, em, ?_, ⟨k1, k2, hok3, ⟨⟨hp.1.1, show g.p.S ≤ t'.N by omega⟩, hp.2.1, hp.2.2.1, fun i hi => ?_, fun i j _ hj => ?_, fun n h1 h2 => ?_, hp.2.2.2.2.2.2⟩, fun n h1 h2 => ?_, fun _ => ?_⟩, hC3, m1.fr fin (by decide), ⟨by rw [e2']; exact m2.1, fun k hk => by rw [(fin 1 (by decide)).2.2.1]; exact m2.2 k hk⟩, hMT, f5.fr ff (by decide), f6.fr ff (by decide), ⟨by rw [(fin 45 (by decide)).1, (fin 46 (by decide)).1, (fin 49 (by decide)).1]; exact hM.1, by rw [(fin 43 (by decide)).2.2.1]; exact hM.2.1, by rw [(fin 44 (by decide)).2.2.2]; exact hM.2.2.1, fun s hs => ?_⟩⟩
  · have : τf.1 0 = nI 0 := by
      rw [(ff 0 (by decide)).1, (f7 0 (by decide)).1, (fd 0 (by decide)).1, (a3 0 (by decide)).1, hτb]
      show (mI (mI (mI τ 0 (nI 0)) 20 (nI 1)) 35 (nI r)).1 0 = _
      rw [mI_ne _ _ (by decide), mI_ne _ _ (by decide), mI_at]
    rw [this]
    exact Agr.v
  · have hi : i < g.p.S := hi
    omega
  · have hj : j < g.p.S := hj
    omega
  · have h2 : n < t'.N := h2
    omega
  · have h2 : n < t'.N := h2
    omega
  · show t'.cm 0 = (0, some (t'.st 0).rm, none) ∧ (t'.st 0).rm < g.w.R ∧ t'.st 0 = sStart g.w (t'.st 0).rm
    rw [ht', tAdd_cm, tAdd_st, if_pos h0.symm, if_pos h0.symm, hq, hs]
    exact ⟨rfl, hr, rfl⟩
  · have hs : s < g.p.S := hs
    omega
end R20
