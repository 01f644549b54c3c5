/-! To name a node: both sides. -/
/-- a node's name -/
def tNm (t : Tr) (n : Nat) (l : List Nat) : Tr := (t.1, t.2.1, t.2.2.1, t.2.2.2.1, t.2.2.2.2.1, fun m => if m = n then l else t.lb m)
section S20
variable {g : Gm} {σ σ1 : cS} {τ τ1 : mS} {w : Wd} {t : Tr} {l : List Nat}
theorem tNm_lb (n m : Nat) : (tNm t n l).lb m = if m = n then l else t.lb m := rfl
theorem fm_name_l {m : Nat} (hl : isTx l) (hm : m < 80) : ∀ (d x n : Nat) (τ : mS), x + d = 8 → d < n → MTx τ l → τ.1 34 = nI m → (∀ j, j < x → τ.2.2.1 31 (8 * m + j) = nI (l.getD j 0)) → ∃ τ', fm_name_71 n τ (nI x) = fm_name_124 3000 (mI τ' 2 (nI 0)) (nI 0) (nI 0) ∧ mFr [31] τ τ' ∧ (∀ j, j < 8 → τ'.2.2.1 31 (8 * m + j) = nI (l.getD j 0)) ∧ ∀ i, (i < 8 * m ∨ 8 * m + 8 ≤ i) → τ'.2.2.1 31 i = τ.2.2.1 31 i := by
  have h30 := hl.1
  intro d
  induction d with
  | zero =>
    intro x n τ hx hn hX h4 hj
    obtain ⟨n, rfl⟩ : ∃ m, n = m + 1 := ⟨n - 1, by omega⟩
    refine ⟨τ, ?_, mFr.rf _ _, fun j h => hj j (by omega), fun _ _ => rfl⟩
    rw [show fm_name_71 (n + 1) τ (nI x) = if (8 : Int32) ≤ nI x then fm_name_124 3000 (mI τ 2 (nI 0)) (nI 0) (nI 0) else _ from rfl]
    exact if_pos (show (8 : Int32) ≤ nI x by rw [show x = 8 by omega]; decide)
  | succ d ih =>
    intro x n τ hx hn hX h4 hj
    obtain ⟨n, rfl⟩ : ∃ m, n = m + 1 := ⟨n - 1, by omega⟩
    have step : fm_name_71 (n + 1) τ (nI x) = fm_name_108 (fm_name_71 n) τ (nI x) (nI (l.getD x 0)) (nI (8 * m + x)) := by
      rw [show fm_name_71 (n + 1) τ (nI x) = if (8 : Int32) ≤ nI x then _ else if (τ.1 2) ≤ nI x then fm_name_108 (fm_name_71 n) τ (nI x) (0 : Int32) (((8 : Int32) * (τ.1 34)) + nI x) else if nI x < 0 ∨ 30 ≤ (nI x).toNatClampNeg then none else fm_name_108 (fm_name_71 n) τ (nI x) (τ.2.2.1 1 (nI x).toNatClampNeg) (((8 : Int32) * (τ.1 34)) + nI x) from rfl]
      rw [if_neg (show ¬ (8 : Int32) ≤ nI x by rw [show (8 : Int32) = nI 8 from rfl, jLe (by omega) (by omega)]; omega), hX.1, h4, show (8 : Int32) = nI 8 from rfl, jMul, jAdd]
      by_cases q : l.length ≤ x
      · rw [if_pos ((jLe (by omega) (by omega)).mpr q), show l.getD x 0 = 0 by rw [List.getD_eq_getElem?_getD, List.getElem?_eq_none q]; rfl]
        rfl
      · rw [if_neg (fun h => q ((jLe (by omega) (by omega)).mp h)), if_neg (iN0 (show x < 30 by omega) (by omega)), jCl (by omega), hX.2 x (by omega)]
    rw [step]
    unfold fm_name_108
    rw [if_neg (iN0 (show 8 * m + x < 640 by omega) (by omega)), jCl (by omega), n1, jAdd]
    obtain ⟨τ', g1, g2, g3, g4⟩ := ih (x + 1) n (mA τ 31 (8 * m + x) (nI (l.getD x 0))) (by omega) (by omega) (hX.fr (mFr.A (k := 31) (List.mem_singleton.mpr rfl)) (by decide) (by decide)) h4 (fun j hj2 => by
      rw [mA_at]
      by_cases q : j = x
      · rw [if_pos (by rw [q]), q]
      · rw [if_neg (by omega)]
        exact hj j (by omega))
    refine ⟨τ', g1, (mFr.A (List.mem_singleton.mpr rfl)).tr g2, g3, fun i hi => ?_⟩
    rw [g4 i hi, mA_at, if_neg (by omega)]
theorem fm_name_c (ht : Tr.ok w t) (hN : MNm τ t) (h33 : τ.1 33 = nI t.N) : ∀ (d x a n : Nat), x + d = t.N → d < n → fm_name_124 n τ (nI a) (nI x) = some (nI (a + sCnt (lbP t) x d), τ) := by
  have h80 := ht.1.1
  intro d
  induction d with
  | zero =>
    intro x a n hx hn
    obtain ⟨n, rfl⟩ : ∃ m, n = m + 1 := ⟨n - 1, by omega⟩
    rw [show fm_name_124 (n + 1) τ (nI a) (nI x) = if (τ.1 33) ≤ nI x then some (nI a, τ) else _ from rfl]
    rw [h33]
    exact if_pos (show nI t.N ≤ nI x by rw [jLe (by omega) (by omega)]; omega)
  | succ d ih =>
    intro x a n hx hn
    obtain ⟨n, rfl⟩ : ∃ m, n = m + 1 := ⟨n - 1, by omega⟩
    rw [show fm_name_124 (n + 1) τ (nI a) (nI x) = if (τ.1 33) ≤ nI x then _ else if ((8 : Int32) * nI x) < 0 ∨ 640 ≤ ((8 : Int32) * nI x).toNatClampNeg then none else if (τ.2.2.1 31 ((8 : Int32) * nI x).toNatClampNeg) = 0 then fm_name_150 (fm_name_124 n) τ (nI x) (0 : Int32) (nI a) else fm_name_150 (fm_name_124 n) τ (nI x) (1 : Int32) (nI a) from rfl]
    rw [h33, if_neg (show ¬ nI t.N ≤ nI x by rw [jLe (by omega) (by omega)]; omega), show (8 : Int32) = nI 8 from rfl, jMul, if_neg (iN0 (show 8 * x < 640 by omega) (by omega)), jCl (by omega), sCnt_s]
    unfold fm_name_150
    rw [show nI x + 1 = nI (x + 1) from jAdd x 1]
    obtain ⟨h1, h2⟩ := hN x (by omega)
    by_cases q : t.lb x = []
    · rw [h1 q, if_pos (show nI 0 = 0 from rfl), show nI a + 0 = nI (a + 0) from jAdd a 0, ih (x + 1) _ n (by omega) (by omega), if_neg (show ¬ lbP t x = true from fun z => (of_decide_eq_true z) q)]
      congr 3
      omega
    · have h3 := h2 q 0 (by omega)
      rw [Nat.add_zero] at h3
      have hb := (ht.2.2.1 x (by omega)).2.2
      have h97 : 97 ≤ (t.lb x).getD 0 0 ∧ (t.lb x).getD 0 0 ≤ 122 := by
        have hpos : 0 < (t.lb x).length := List.length_pos_iff.mpr q
        rw [gD hpos]
        exact hb.2 _ (List.getElem_mem hpos)
      rw [h3, if_neg (show ¬ nI ((t.lb x).getD 0 0) = 0 from fun z => by have := (jEq (b := 0) (by omega) (by omega)).mp z; omega), show nI a + 1 = nI (a + 1) from jAdd a 1, ih (x + 1) _ n (by omega) (by omega), if_pos (show lbP t x = true from decide_eq_true q), Nat.add_assoc]
theorem meth_name (hR : Rel g σ τ) : Alk [2, 1, 3] g (fc_X11_name σ) (fm_name τ) := by
  obtain ⟨hok, hCR, hMR⟩ := id hR
  obtain ⟨k1, k2, k3, hp, k5, k6⟩ := id hok
  obtain ⟨r1, r2, r3, hC, r5, r6, r7, s0, r8⟩ := id hCR
  obtain ⟨m1, m2, m3, m4, m5, hM⟩ := id hMR
  have hMR0 := mr0 hMR
  obtain ⟨n1', n2, n3, n4, n5, n6'⟩ := id hMR0
  have h80 := k3.1.1
  have bad : ∀ k, 0 < k → k < 1000 → fm_name_29 τ (nI k) = some (0, mI τ 0 (nI k)) := fun k h1 h2 => by
    unfold fm_name_29
    rw [wrong_s τ (by omega) h1]
    exact if_neg nz1
  have bad2 : ∀ k, 0 < k → k < 1000 → fm_name_61 (mI τ 0 (nI 0)) (nI k) = some (0, mI τ 0 (nI k)) := fun k h1 h2 => by
    unfold fm_name_61
    rw [wrong_s _ (by omega) h1, mI_twice]
    exact if_neg nz1
  unfold fc_X11_name fm_name
  rw [fc_needPlay_s r3 h80, xb_ifN, begun_if m3]
  refine Alk.ite (fun z => Alk.x (c := 2) (j := 0) (v := 0) hR rfl (bad 1 (by omega) (by omega)) rfl) fun z => ?_
  have h0 : 0 < g.t.N := by omega
  have hn := k3.1.2.1 h0
  have hch := k2.2
  rw [fc_lettersOfAll_s k2 r2, Option.bind_some, m2.1, show (0 : Int32) = nI 0 from rfl, fm_isRow_s k2 m2, Option.bind_some, bI_if0]
  show Alk [2, 1, 3] g (if lg_cmp (sP8 g.l) 0 = nI 0 then some (.inl 1, σ) else (fc_X8_nodeLabelled σ (sP8 g.l)).bind _) _
  by_cases q : sRow g.l = true
  · rw [if_pos q, if_neg (show ¬ lg_cmp (sP8 g.l) 0 = nI 0 from fun h => by
      have := (sP8_0 hch).mp (lg0.mp h)
      rw [q] at this
      cases this), fc_nodeLabelled_s k3 r3 k2, Option.bind_some]
    obtain ⟨q1, q2, q3⟩ := of_decide_eq_true q
    have hlb : isLb g.l := ⟨q2, fun c hc => by have := hch c hc; have := q3 c hc; omega⟩
    have hpk : pack g.l = sP8 g.l := (sP8_eq hlb q1 hch).mpr rfl
    have e29 : ∀ o, sNamed g.t g.l = o → fm_name_29 τ (nI 0) = if oI o = (-1 : Int32) then fm_name_61 (mI τ 0 (nI 0)) (nI 0) else if oI o = nI g.t.now then fm_name_61 (mI τ 0 (nI 0)) (nI 0) else fm_name_61 (mI τ 0 (nI 0)) 3 := fun o ho => by
      unfold fm_name_29 fm_name_60
      rw [right_s]
      show (if nI 0 = 0 then (fm_named (mI τ 0 (nI 0))).bind _ else _) = _
      rw [if_pos (show nI 0 = 0 from rfl), fm_named_s k3 n3 n5 k2 n2, Option.bind_some, ho]
      show (if oI o = (-1 : Int32) then _ else if oI o = (mI τ 0 (nI 0)).1 34 then _ else _) = _
      rw [n3.1.2.1]
      rfl
    have good : (∀ m, m < g.t.N → g.t.lb m = g.l → m = g.t.now) → Alk [2, 1, 3] g (fc_X11_name_64 σ (sP8 g.l)) (fm_name_61 (mI τ 0 (nI 0)) (nI 0)) := by
      intro huniq
      obtain ⟨t', ht'⟩ : ∃ t', t' = tNm g.t g.t.now g.l := ⟨_, rfl⟩
      have el : ∀ m, t'.lb m = if m = g.t.now then g.l else g.t.lb m := fun m => by rw [ht']; rfl
      have tN : t'.N = g.t.N := by rw [ht']; rfl
      have hok3 : Tr.ok g.w t' := by
        obtain ⟨a1, a2, a3, a4⟩ := k3
        have b3 : ∀ n, n < g.t.N → St.ok g.w (g.t.st n) ∧ wset g.w.W (g.t.sh n) ∧ isLb (t'.lb n) := fun n hn => by
          obtain ⟨x1, x2, x3⟩ := a3 n hn
          refine ⟨x1, x2, ?_⟩
          rw [el]
          split
          · exact hlb
          · exact x3
        have b4 : ∀ n m, n < g.t.N → m < g.t.N → t'.lb n = t'.lb m → t'.lb n ≠ [] → n = m := fun n m hn hm he hne => by
          rw [el, el] at he
          rw [el] at hne
          by_cases z1 : n = g.t.now
          · by_cases z2 : m = g.t.now
            · omega
            · rw [if_pos z1, if_neg z2] at he
              exact z1.trans (huniq m hm he.symm).symm
          · by_cases z2 : m = g.t.now
            · rw [if_neg z1, if_pos z2] at he
              exact (huniq n hn he).trans z2.symm
            · rw [if_neg z1, if_neg z2] at he
              rw [if_neg z1] at hne
              exact a4 n m hn hm he hne
        rw [ht'] at b3 b4 ⊢
        exact ⟨a1, a2, b3, b4⟩
      have hok' : Gm.ok (g.w, [], t', g.p) := by
        rw [ht'] at hok3 ⊢
        exact ⟨k1, ⟨Nat.zero_le _, fun c h => by cases h⟩, hok3, hp, k5, k6⟩
      -- the class
      obtain ⟨σ1, hσ⟩ : ∃ σ1, σ1 = uI (uJ σ 7 g.t.now 5 (sP8 g.l)) 1 0 3 (0 : Int32) := ⟨_, rfl⟩
      have F : cFr [(7, g.t.now), (1, 0)] σ σ1 := by rw [hσ]; exact (cFr.J (by simp)).tr (cFr.I (by simp))
      have hc : cn σ1 = cn σ := by rw [hσ]; rfl
      have T1 : CTr σ1 t' := by
        obtain ⟨⟨C1, C2, C3, C4, C5, C6⟩, CN, CP⟩ := r3
        have b2 : ∀ n, n < g.t.N → cI σ1 7 n 0 = nI n ∧ cR σ1 7 n 1 = (if n = 0 then none else some (g.t.par n)) ∧ cR σ1 7 n 3 = some (n + 1) ∧ cJ σ1 7 n 4 = g.t.sh n ∧ cJ σ1 7 n 5 = pack (t'.lb n) ∧ RSt σ1 (n + 1) (g.t.st n) ∧ ∃ c, cR σ1 7 n 2 = some c ∧ RCm σ1 c (g.t.cm n) := fun n hn => by
          obtain ⟨x0, x1, x2, x3, x4, x5, c', x6, x7⟩ := CN n hn
          have eR : cR σ1 = cR σ := by rw [hσ]; rfl
          have eI : cI σ1 7 n = cI σ 7 n := by rw [hσ, uI_ne _ _ _ (by simp)]; rfl
          have eJ : ∀ f, cJ σ1 7 n f = if n = g.t.now ∧ f = 5 then sP8 g.l else cJ σ 7 n f := fun f => by
            rw [hσ]
            show (if 7 = 7 ∧ n = g.t.now ∧ f = 5 then sP8 g.l else cJ σ 7 n f) = _
            by_cases z : n = g.t.now ∧ f = 5
            · rw [if_pos ⟨rfl, z⟩, if_pos z]
            · rw [if_neg (fun y => z y.2), if_neg z]
          rw [eR, eI, eJ, eJ, if_neg (show ¬ (n = g.t.now ∧ 4 = 5) by omega), el]
          refine ⟨x0, x1, x2, x3, ?_, x5.fr F (fun q hq => by simp at hq; unfold cSc; rcases hq with rfl | rfl <;> simp), c', x6, x7.fr F (by simp)⟩
          by_cases z : n = g.t.now
          · rw [if_pos ⟨z, rfl⟩, if_pos z, hpk]
          · rw [if_neg (fun y => z y.1), if_neg z]
            exact x4
        have b1 : cI σ1 4 0 2 = nI g.t.now ∧ CLs σ1 0 g.t.N 7 ∧ cn σ1 7 = g.t.N ∧ cn σ1 6 = g.t.N + 1 ∧ cn σ1 12 = 15 + 2 * g.t.N ∧ cn σ1 13 = 2 + g.t.N := ⟨by rw [((F.2 4 0 (Nat.lt_of_lt_of_le (by decide) (r6 4 (by decide)))).2.2 (by simp)).1]; exact C1, (C2.fr F (by simp) (fun e _ => by simp)).1, by rw [hc]; exact C3, by rw [hc]; exact C4, by rw [hc]; exact C5, by rw [hc]; exact C6⟩
        have b3 : ∀ k, k < 40 → cI σ1 12 11 k = nI (sumR 0 g.t.N fun n => if sHas (g.t.sh n) k then 1 else 0) := fun k hk => by
          rw [((F.2 12 11 (Nat.lt_of_lt_of_le (by decide) (r6 12 (by decide)))).2.2 (by simp)).1]
          exact CP k hk
        rw [ht'] at b2 ⊢
        exact ⟨b1, b2, b3⟩
      have hC1 : CR σ1 (g.w, [], t', g.p) := ⟨r1.fr r6 F (fun q hq => by simp at hq; unfold cWk; rcases hq with rfl | rfl <;> simp), ⟨by rw [hσ, uI_at, if_pos rfl]; rfl, fun k hk => absurd hk (Nat.not_lt_zero k)⟩, T1, hC.fr F r6 (by simp) (by simp) (by simp) (by simp) (fun e _ => by simp) (fun s _ => by simp) (by rw [hc]), ⟨r5.1.fr F r6 (by simp) (by simp), r5.2.fr r6 F (fun q hq => by simp at hq; rcases hq with rfl | rfl <;> simp)⟩, r6.fr F, by rw [hc]; exact r7, s0, r8.fr F (fun q hq => by simp at hq; unfold cSc; rcases hq with rfl | rfl <;> simp)⟩
      -- the reference
      obtain ⟨τ', g1, g2, g3, g4⟩ := fm_name_l (m := g.t.now) k2 (by omega) 8 0 3000 (mI τ 0 (nI 0)) (by omega) (by omega) n2 n3.1.2.1 (fun j hj => by omega)
      obtain ⟨τ1, hτ⟩ : ∃ τ1, τ1 = mI τ' 2 (nI 0) := ⟨_, rfl⟩
      have f1 : mFr [2] τ' τ1 := by rw [hτ]; exact mFr.I (by decide)
      have fin : mFr [0, 2, 31] τ τ1 := (((mFr.I (by decide) : mFr [0, 2, 31] τ (mI τ 0 (nI 0)))).tr (g2.wk (by decide))).tr (f1.wk (by decide))
      have e31 : τ1.2.2.1 31 = τ'.2.2.1 31 := (f1 31 (by decide)).2.2.1
      have N1 : MNm τ1 t' := by
        intro n hn
        have hn' : n < g.t.N := by omega
        rw [el, e31]
        by_cases z : n = g.t.now
        · rw [if_pos z, z]
          exact ⟨fun h => absurd h q1, fun _ => g3⟩
        · rw [if_neg z]
          obtain ⟨x1, x2⟩ := m5 n hn'
          refine ⟨fun h => ?_, fun h k hk => ?_⟩
          · rw [g4 _ (by omega)]
            exact x1 h
          · rw [g4 _ (by omega)]
            exact x2 h k hk
      have M1 : MTr τ1 g.w t' := by
        have := m3.fr fin (by decide)
        rw [ht']
        exact this
      have em : fm_name_61 (mI τ 0 (nI 0)) (nI 0) = some (nI (sLbs t'), τ1) := by
        unfold fm_name_61
        rw [right_s, mI_twice]
        show (if nI 0 = 0 then fm_name_71 3000 (mI τ 0 (nI 0)) (nI 0) else _) = _
        rw [if_pos (show nI 0 = 0 from rfl), g1, ← hτ, fm_name_c hok3 N1 M1.1.1 t'.N 0 0 3000 (by omega) (by omega), Nat.zero_add]
        rfl
      refine ⟨(g.w, [], t', g.p), .inr (nI (sLbs t')), σ1, nI (sLbs t'), τ1, ?_, em, ?_, hok', hC1, m1.fr fin (by decide), ⟨by rw [hτ, mI_at]; rfl, fun k hk => absurd hk (Nat.not_lt_zero k)⟩, M1, ?_, N1, hM.fr fin (by decide)⟩
      · unfold fc_X11_name_64
        rw [fc_current_s k3 r3 h0, Option.bind_some, r3.dn hn, Option.bind_some]
        show (fc_X8_labelCount (uI (uJ σ 7 g.t.now 5 (sP8 g.l)) 1 0 3 (0 : Int32))).bind _ = _
        rw [← hσ, fc_labelCount_s hok3 T1, Option.bind_some]
      · rw [hτ, mI_ne _ _ (by decide), (g2 0 (by decide)).1, mI_at]
        exact Agr.v
      · have := m4.fr fin (by decide)
        rw [ht']
        exact this
    have nam : ∀ o, sNamed g.t g.l = o → Alk [2, 1, 3] g (if oI o = (-1 : Int32) then fc_X11_name_64 σ (sP8 g.l) else if oI o = nI g.t.now then fc_X11_name_64 σ (sP8 g.l) else some (.inl 3, σ)) (fm_name_29 τ (nI 0)) := by
      intro o ho
      rw [e29 o ho]
      refine Alk.ite (fun z => good fun m hm he => ?_) fun z => Alk.ite (fun z2 => good fun m hm he => ?_) fun z2 => Alk.x (c := 3) (j := 2) (v := 0) hR rfl (bad2 3 (by omega) (by omega)) rfl
      · cases o with
        | none => exact absurd (decide_eq_true ⟨he, q1⟩) (List.find?_eq_none.mp ho m (by rw [List.mem_range'_1]; omega))
        | some k =>
          have := List.mem_of_find?_eq_some ho
          rw [List.mem_range'_1] at this
          exact absurd z (fun z => (jM1 (a := k) (by omega)).mp z)
      · cases o with
        | none => exact absurd rfl z
        | some k =>
          have hk := List.mem_of_find?_eq_some ho
          rw [List.mem_range'_1] at hk
          have e1 : k = g.t.now := (jEq (by omega) (by omega)).mp z2
          have ef := List.find?_some ho
          obtain ⟨e2, -⟩ := of_decide_eq_true ef
          exact (k3.2.2.2 m k hm (by omega) (he.trans e2.symm) (by rw [he]; exact q1)).trans e1
    show Alk [2, 1, 3] g (if oI (sNamed g.t g.l) = (-1 : Int32) then fc_X11_name_64 σ (sP8 g.l) else if oI (sNamed g.t g.l) = cI σ 4 0 2 then fc_X11_name_64 σ (sP8 g.l) else some (.inl 3, σ)) _
    rw [r3.1.1]
    exact nam _ rfl
  · rw [if_neg q, if_pos (show lg_cmp (sP8 g.l) 0 = nI 0 from lg0.mpr ((sP8_0 hch).mpr (Bool.eq_false_iff.mpr q)))]
    exact Alk.x (c := 1) (j := 1) (v := 0) hR rfl (bad 2 (by omega) (by omega)) rfl
end S20
