/-! To add a word. -/
def wWord (w : Wd) (l : List Nat) : Wd := ((fun a => if a = 0 then w.W + 1 else w.1 a), (fun i => if i = w.W then l else w.word i), w.2.2)
theorem sPk_cg {w w' : Wd} {t : St} {li : Bool} (h : ∀ s x, sTake w' s x = sTake w s x) : ∀ d x k s, sPk w' t li d x k s = sPk w t li d x k s := by
  intro d
  induction d with
  | zero => intro x k s; rfl
  | succ d ih =>
    intro x k s
    simp only [sPk, h, ih]
section B20
variable {g : Gm} {σ : cS} {τ : mS} {w : Wd} {l : List Nat}
theorem sText_word {q : Cm} (hq : tyQ w q) : sText (wWord w l) q = sText w q := by
  have e : ∀ k, k < w.W → (wWord w l).word k = w.word k := fun k hk => if_neg (by omega)
  rcases hq with ⟨d, hd, rfl⟩ | rfl | rfl | ⟨v, k, h1, h2, hk, rfl⟩ | ⟨a, b, ha, hb, rfl⟩
  · rfl
  · rfl
  · rfl
  · have h9 : ¬ v = 9 := by omega
    simp only [sText, Option.getD_some, h9, if_false, e k hk]
  · simp only [sText, Option.getD_some, e a ha, e b hb]
theorem tyQ_word {q : Cm} (hq : tyQ w q) : tyQ (wWord w l) q := by
  have e : (wWord w l).W = w.W + 1 := rfl
  rcases hq with h | h | h | ⟨v, k, h1, h2, hk, h⟩ | ⟨a, b, ha, hb, h⟩
  · exact Or.inl h
  · exact Or.inr (Or.inl h)
  · exact Or.inr (Or.inr (Or.inl h))
  · exact Or.inr (Or.inr (Or.inr (Or.inl ⟨v, k, h1, h2, by omega, h⟩)))
  · exact Or.inr (Or.inr (Or.inr (Or.inr ⟨a, b, by omega, by omega, h⟩)))
theorem cmQ_word {q : Cm} (hq : cmQ w q) : cmQ (wWord w l) q := by
  rcases hq with h | h
  · exact Or.inl (tyQ_word h)
  · exact Or.inr h
theorem rpl_word {t : Tr} {n : Nat} (h : rpl w t n) : rpl (wWord w l) t n := by
  obtain ⟨h1, h2, h3⟩ := h
  refine ⟨h1, h2, fun e => ?_⟩
  obtain ⟨m, a, b, c, d⟩ := h3 e
  have k : ∀ s x, sTake (wWord w l) s x = sTake w s x := fun _ _ => rfl
  refine ⟨m, a, b, ?_, ?_⟩
  · rw [sPk_cg k]; exact c
  · rw [sPk_cg k]; exact d
theorem wWord_ok (hw : Wd.ok w) (hl : isTx l) (hr : sRow l = true) (h40 : w.W < 40) (hn : sWord w l = none) : Wd.ok (wWord w l) := by
  obtain ⟨⟨a1, a2, a3, a4⟩, b, c, d, e, f, h, i, j, k, m, n⟩ := hw
  have eW : (wWord w l).W = w.W + 1 := rfl
  have ew : ∀ i, (wWord w l).word i = if i = w.W then l else w.word i := fun _ => rfl
  obtain ⟨r1, r2, r3⟩ := of_decide_eq_true hr
  have hne : ∀ i, i < w.W → w.word i ≠ l := by
    intro i hi he
    have := List.find?_eq_none.mp hn i (by rw [List.mem_range'_1]; omega)
    exact this (decide_eq_true he)
  refine ⟨⟨by omega, a2, a3, a4⟩, fun i hi => ?_, fun i j hi hj he => ?_, d, e, fun x hx => ?_, h, i, j, k, fun r => wset_le (m r) (by omega), fun r => wset_le (n r) (by omega)⟩
  · rw [ew]
    by_cases q : i = w.W
    · rw [if_pos q]
      refine ⟨?_, r2, fun c hc => ?_⟩
      · rcases hz : l with _ | ⟨x, y⟩
        · exact absurd hz r1
        · simp
      · have := hl.2 c hc
        have := r3 c hc
        omega
    · rw [if_neg q]
      exact b i (by omega)
  · rw [ew, ew] at he
    by_cases q : i = w.W
    · by_cases q2 : j = w.W
      · omega
      · rw [if_pos q, if_neg q2] at he
        exact absurd he.symm (hne j (by omega))
    · by_cases q2 : j = w.W
      · rw [if_neg q, if_pos q2] at he
        exact absurd he (hne i (by omega))
      · rw [if_neg q, if_neg q2] at he
        exact c i j (by omega) (by omega) he
  · obtain ⟨x1, x2⟩ := f x hx
    exact ⟨Nat.lt_of_lt_of_le x1 (by omega), x2⟩
theorem fm_word_l {W : Nat} (hl : isTx l) (hW : W < 40) : ∀ (d x n : Nat) (τ : mS), x + d = 8 → d < n → MTx τ l → τ.1 4 = nI W → (∀ j, j < x → τ.2.2.1 3 (8 * W + j) = nI (l.getD j 0)) → ∃ τ', fm_word_58 n τ (nI x) = some (nI W, mI (mI τ' 2 (nI 0)) 4 (nI (W + 1))) ∧ mFr [3] τ τ' ∧ (∀ j, j < 8 → τ'.2.2.1 3 (8 * W + j) = nI (l.getD j 0)) ∧ ∀ i, i < 8 * W → τ'.2.2.1 3 i = τ.2.2.1 3 i := by
  have h30 := hl.1
  have eW : nI (W + 1) - 1 = nI W := by rw [n1, jSub (by omega)]; rfl
  intro d
  induction d with
  | zero =>
    intro x n τ hx hn hX h4 hj
    obtain ⟨n, rfl⟩ : ∃ m, n = m + 1 := ⟨n - 1, by omega⟩
    refine ⟨τ, ?_, mFr.rf _ _, fun j h => hj j (by omega), fun _ _ => rfl⟩
    rw [show fm_word_58 (n + 1) τ (nI x) = if (8 : Int32) ≤ nI x then some ((((mI (mI τ 2 (0 : Int32)) 4 (((mI τ 2 (0 : Int32)).1 4) + (1 : Int32))).1 4) - (1 : Int32)), (mI (mI τ 2 (0 : Int32)) 4 (((mI τ 2 (0 : Int32)).1 4) + (1 : Int32)))) else _ from rfl]
    have e4 : (mI τ 2 (0 : Int32)).1 4 = nI W := h4
    rw [if_pos (show (8 : Int32) ≤ nI x by rw [show x = 8 by omega]; decide), mI_at, e4, n1, jAdd, ← n1, eW]
    rfl
  | succ d ih =>
    intro x n τ hx hn hX h4 hj
    obtain ⟨n, rfl⟩ : ∃ m, n = m + 1 := ⟨n - 1, by omega⟩
    have step : fm_word_58 (n + 1) τ (nI x) = fm_word_95 (fm_word_58 n) τ (nI x) (nI (l.getD x 0)) (nI (8 * W + x)) := by
      rw [show fm_word_58 (n + 1) τ (nI x) = if (8 : Int32) ≤ nI x then _ else if (τ.1 2) ≤ nI x then fm_word_95 (fm_word_58 n) τ (nI x) (0 : Int32) (((8 : Int32) * (τ.1 4)) + nI x) else if nI x < 0 ∨ 30 ≤ (nI x).toNatClampNeg then none else fm_word_95 (fm_word_58 n) τ (nI x) (τ.2.2.1 1 (nI x).toNatClampNeg) (((8 : Int32) * (τ.1 4)) + nI x) from rfl]
      rw [if_neg (show ¬ (8 : Int32) ≤ nI x by rw [show (8 : Int32) = nI 8 from rfl, jLe (by omega) (by omega)]; omega), hX.1, h4, show (8 : Int32) = nI 8 from rfl, jMul, jAdd]
      by_cases q : l.length ≤ x
      · rw [if_pos ((jLe (by omega) (by omega)).mpr q), show l.getD x 0 = 0 by rw [List.getD_eq_getElem?_getD, List.getElem?_eq_none q]; rfl]
        rfl
      · rw [if_neg (fun h => q ((jLe (by omega) (by omega)).mp h)), n0, if_neg (fun h => (jIn (show x < 30 by omega) (by omega)).mp h), jCl (by omega), hX.2 x (by omega)]
    rw [step]
    unfold fm_word_95
    rw [n0, if_neg (fun h => (jIn (show 8 * W + x < 320 by omega) (by omega)).mp h), jCl (by omega), n1, jAdd]
    obtain ⟨τ', g1, g2, g3, g4⟩ := ih (x + 1) n (mA τ 3 (8 * W + x) (nI (l.getD x 0))) (by omega) (by omega) (hX.fr (mFr.A (k := 3) (List.mem_singleton.mpr rfl)) (by decide) (by decide)) h4 (fun j hj2 => by
      rw [mA_at]
      by_cases q : j = x
      · rw [if_pos (by rw [q]), q]
      · rw [if_neg (by omega)]
        exact hj j (by omega))
    refine ⟨τ', g1, (mFr.A (List.mem_singleton.mpr rfl)).tr g2, g3, fun i hi => ?_⟩
    rw [g4 i hi, mA_at, if_neg (by omega)]
theorem uJ_ne' (σ : cS) {k i k' i' : Nat} (f : Nat) (v : Int64) (h : ¬ (k' = k ∧ i' = i)) : cJ (uJ σ k i f v) k' i' = cJ σ k' i' := funext fun f' => if_neg fun z => h ⟨z.1, z.2.1⟩
theorem meth_word (hR : Rel g σ τ) : Alk [1, 3, 2] g (fc_X11_word σ) (fm_word τ) := by
  have hX := hR.2.1.2.1
  have hMx := hR.2.2.2.1
  have hl := hR.1.2.1
  have hw := hR.1.1
  have hC := hR.2.1.1
  have hMw := hR.2.2.1
  have h30 := hl.1
  have hW40 := hw.1.1
  have bad : ∀ k, 0 < k → k < 1000 → fm_word_48 τ (nI k) = some (0, mI τ 0 (nI k)) := fun k h1 h2 => by
    unfold fm_word_48
    rw [wrong_s τ (by omega) h1]
    exact if_neg nz1
  unfold fc_X11_word fm_word
  have er := fm_isRow_s hl hMx
  have ew := fm_wordAt_s hw hMw hl hMx (i := 0) (e := g.l.length) (Nat.zero_le _) (Nat.le_refl _)
  rw [Nat.sub_zero, sSeg_all] at ew
  rw [fc_lettersOfAll_s hl hX, Option.bind_some, n0, hMx.1, er, Option.bind_some]
  show Alk [1, 3, 2] g (if lg_cmp (sP8 g.l) 0 = nI 0 then some (.inl 1, σ) else (fc_X10_wordOf σ (sP8 g.l)).bind _) (if bI (sRow g.l) = nI 0 then fm_word_48 τ 1 else (fm_wordAt τ (nI 0) (τ.1 2)).bind _)
  rw [bI_if0, hMx.1, ew, fc_wordOf_s hw hC hl.2, Option.bind_some, Option.bind_some]
  by_cases q : sRow g.l = true
  · rw [if_pos q, if_neg (show ¬ lg_cmp (sP8 g.l) 0 = nI 0 from fun h => by
      have := (sP8_0 hl.2).mp (lg0.mp h)
      rw [q] at this
      cases this)]
    have nam : ∀ o, sWord g.w g.l = o → Alk [1, 3, 2] g (if oI o = (-1 : Int32) then (if (cI σ 2 0 1) < (40 : Int32) then (if (cI σ 2 0 1) < 0 ∨ 40 ≤ (cI σ 2 0 1).toNatClampNeg then none else some (.inr ((cI (uI (uI (uJ σ 15 0 (cI σ 2 0 1).toNatClampNeg (sP8 g.l)) 2 0 1 ((cI (uJ σ 15 0 (cI σ 2 0 1).toNatClampNeg (sP8 g.l)) 2 0 1) + (1 : Int32))) 1 0 3 (0 : Int32)) 2 0 1) - (1 : Int32)), (uI (uI (uJ σ 15 0 (cI σ 2 0 1).toNatClampNeg (sP8 g.l)) 2 0 1 ((cI (uJ σ 15 0 (cI σ 2 0 1).toNatClampNeg (sP8 g.l)) 2 0 1) + (1 : Int32))) 1 0 3 (0 : Int32)))) else some (.inl 2, σ)) else some (.inl 3, σ)) (if oI o = (-1 : Int32) then (if (τ.1 4) = (40 : Int32) then fm_word_48 τ (3 : Int32) else fm_word_48 τ (0 : Int32)) else fm_word_48 τ (2 : Int32)) := by
      intro o ho
      cases o with
      | some k =>
        have hk := (sWord_lt ho).1
        rw [if_neg (show ¬ oI (some k) = (-1 : Int32) from fun h => (jM1 (a := k) (by omega)).mp h), if_neg (show ¬ oI (some k) = (-1 : Int32) from fun h => (jM1 (a := k) (by omega)).mp h)]
        exact Alk.x (c := 3) (j := 1) (v := 0) hR rfl (bad 2 (by omega) (by omega)) rfl
      | none =>
        rw [if_pos (show oI none = (-1 : Int32) from rfl), if_pos (show oI none = (-1 : Int32) from rfl), hC.1.1, hMw.1.1, show (40 : Int32) = nI 40 from rfl]
        by_cases z : g.w.W = 40
        · rw [if_neg (show ¬ nI g.w.W < nI 40 by rw [jLt (by omega) (by omega)]; omega), if_pos (show nI g.w.W = nI 40 by rw [z])]
          exact Alk.x (c := 2) (j := 2) (v := 0) hR rfl (bad 3 (by omega) (by omega)) rfl
        · rw [if_pos (show nI g.w.W < nI 40 by rw [jLt (by omega) (by omega)]; omega), if_neg (show ¬ nI g.w.W = nI 40 by rw [jEq (by omega) (by omega)]; exact z), n0, if_neg (fun h => (jIn (show g.w.W < 40 by omega) (by omega)).mp h), jCl (by omega)]
          have e1 : cI (uJ σ 15 0 g.w.W (sP8 g.l)) 2 0 1 = nI g.w.W := hC.1.1
          rw [e1, n1, jAdd]
          obtain ⟨σ1, hσ⟩ : ∃ σ1, σ1 = uI (uI (uJ σ 15 0 g.w.W (sP8 g.l)) 2 0 1 (nI (g.w.W + 1))) 1 0 3 (nI 0) := ⟨_, rfl⟩
          have eσ : cI σ1 2 0 1 = nI (g.w.W + 1) := by rw [hσ, uI_ne _ _ _ (by decide), uI_at, if_pos rfl]
          obtain ⟨τ', g1, g2, g3, g4⟩ := fm_word_l (W := g.w.W) hl (by omega) 8 0 3000 (mI τ 0 (nI 0)) (by omega) (by omega) (hMx.fr (ks := [0]) (mFr.I (by decide)) (by decide) (by decide)) hMw.1.1 (fun j hj => by omega)
          obtain ⟨τ1, hτ⟩ : ∃ τ1, τ1 = mI (mI τ' 2 (nI 0)) 4 (nI (g.w.W + 1)) := ⟨_, rfl⟩
          have em : fm_word_48 τ (nI 0) = some (nI g.w.W, τ1) := by
            unfold fm_word_48
            rw [right_s]
            show (if nI 0 = 0 then fm_word_58 3000 (mI τ 0 (nI 0)) (nI 0) else some ((0 : Int32), mI τ 0 (nI 0))) = _
            rw [if_pos (show nI 0 = 0 from rfl), g1, hτ]
          rw [em, ← hσ, eσ, jSub (by omega), show g.w.W + 1 - 1 = g.w.W by omega]
          have hf : cFr [(15, 0), (2, 0), (1, 0)] σ σ1 := by rw [hσ]; exact ((cFr.J (by simp)).tr (cFr.I (by simp))).tr (cFr.I (by simp))
          have hr : mFr [0, 2, 3, 4] τ τ1 := by rw [hτ]; exact (((mFr.I (by decide)).tr (g2.wk (by decide))).tr (mFr.I (by decide))).tr (mFr.I (by decide))
          have hn : cn σ1 = cn σ := by rw [hσ]; rfl
          have hw1 := wWord_ok hw hl q (by omega) ho
          obtain ⟨r1, r2, r3⟩ := of_decide_eq_true q
          have hlb : isLb g.l := ⟨r2, fun c hc => by have := hl.2 c hc; have := r3 c hc; omega⟩
          obtain ⟨⟨k1, k2, ⟨t1, t2, t3, t4⟩, ⟨s1, s2, s3, s4, s5, s6, s7⟩, k5, k6⟩, hCR, ⟨m1, m2, m3, m4, m5, m6⟩⟩ := hR
          refine ⟨(wWord g.w g.l, [], g.t, g.p), .inr (nI g.w.W), σ1, nI g.w.W, τ1, rfl, rfl, ?_, ⟨hw1, ⟨Nat.zero_le _, fun c h => by cases h⟩, ⟨t1, t2, fun n hn => ?_, t4⟩, ⟨s1, fun h => ⟨wset_le (s2 h).1 (Nat.le_succ _), (s2 h).2⟩, s3, s4, s5, s6, s7⟩, fun n h0 hn => ?_, k6⟩, hCR.fw hf (by decide) hn ?_ ⟨by rw [hσ, uI_at, if_pos rfl]; rfl, fun k hk => absurd hk (Nat.not_lt_zero k)⟩, ?_, ⟨by rw [hτ, mI_ne _ _ (by decide), mI_at]; rfl, fun k hk => absurd hk (Nat.not_lt_zero k)⟩, ?_, ?_, m5.fr hr (by decide), m6.fr hr (by decide)⟩
          · have h0 := (g2 0 (by decide)).1
            rw [hτ, mI_ne _ _ (by decide), mI_ne _ _ (by decide), h0, mI_at]
            exact Agr.v
          · obtain ⟨x1, x2, x3⟩ := t3 n hn
            exact ⟨x1, wset_le x2 (Nat.le_succ _), x3⟩
          · obtain ⟨x1, x2, x3⟩ := k5 n h0 hn
            exact ⟨cmQ_word x1, x2, rpl_word x3⟩
          · obtain ⟨⟨c1, c2, c3, c4⟩, c5, c6, c7, c8, c9, c10, c11⟩ := hC
            have I : ∀ k i, ¬ (k = 1 ∧ i = 0) → ¬ (k = 2 ∧ i = 0) → cI σ1 k i = cI σ k i := fun k i h1 h2 => by
              rw [hσ, uI_ne _ _ _ h1, uI_ne _ _ _ h2]; rfl
            have I2 : ∀ f, f ≠ 1 → cI σ1 2 0 f = cI σ 2 0 f := fun f h => by
              rw [hσ, uI_ne _ _ _ (by decide), uI_at, if_neg h]; rfl
            have J : ∀ i, i ≠ 0 → cJ σ1 15 i = cJ σ 15 i := fun i h => by
              rw [hσ]
              exact uJ_ne' σ _ _ (fun z => h z.2)
            refine ⟨⟨eσ, (I2 6 (by decide)).trans c2, (I2 13 (by decide)).trans c3, (I2 16 (by decide)).trans c4⟩, fun i hi => ?_, fun r hr => by rw [I 13 0 (by decide) (by decide)]; exact c6 r hr, fun r hr => by rw [J 1 (by decide), J 2 (by decide)]; exact c7 r hr, fun i hi => by rw [I 12 2 (by decide) (by decide), I 12 3 (by decide) (by decide)]; exact c8 i hi, fun x hx => by rw [I 12 4 (by decide) (by decide), I 12 6 (by decide) (by decide), I 14 1 (by decide) (by decide)]; exact c9 x hx, fun x hx => by rw [I 12 5 (by decide) (by decide), I 12 7 (by decide) (by decide)]; exact c10 x hx, fun y hy => by rw [I 12 8 (by decide) (by decide), I 12 9 (by decide) (by decide)]; exact c11 y hy⟩
            have hi' : i < g.w.W + 1 := hi
            show cJ σ1 15 0 i = pack (if i = g.w.W then g.l else g.w.word i)
            rw [hσ]
            show (if 15 = 15 ∧ 0 = 0 ∧ i = g.w.W then sP8 g.l else cJ σ 15 0 i) = _
            by_cases z2 : i = g.w.W
            · rw [if_pos ⟨rfl, rfl, z2⟩, if_pos z2]
              exact ((sP8_eq hlb r1 hl.2).mpr rfl).symm
            · rw [if_neg (fun h => z2 h.2.2), if_neg z2]
              exact c5 i (by omega)
          · obtain ⟨⟨d1, d2, d3, d4⟩, d5, d6, d7, d8, d9, d10⟩ := hMw
            have A := fun k (h : k ∉ ([0, 2, 3, 4] : List Nat)) => hr k h
            refine ⟨⟨by rw [hτ]; exact mI_at _ _ _, by rw [(A 9 (by decide)).1]; exact d2, by rw [(A 16 (by decide)).1]; exact d3, by rw [(A 19 (by decide)).1]; exact d4⟩, fun i hi k hk => ?_, ?_, ?_, ?_, ?_, ?_⟩
            · have hi' : i < g.w.W + 1 := hi
              show τ1.2.2.1 3 (8 * i + k) = nI ((if i = g.w.W then g.l else g.w.word i).getD k 0)
              rw [hτ]
              show τ'.2.2.1 3 (8 * i + k) = _
              by_cases z2 : i = g.w.W
              · rw [if_pos z2, z2]
                exact g3 k hk
              · rw [if_neg z2, g4 _ (by omega)]
                exact d5 i (by omega) k hk
            · rw [(A 5 (by decide)).2.2.1]; exact d6
            · rw [(A 6 (by decide)).2.2.2, (A 15 (by decide)).2.2.2]; exact d7
            · rw [(A 7 (by decide)).2.2.1, (A 8 (by decide)).2.2.1]; exact d8
            · rw [(A 10 (by decide)).2.2.1, (A 11 (by decide)).2.2.1, (A 12 (by decide)).2.2.1, (A 13 (by decide)).2.2.1, (A 14 (by decide)).2.2.1]; exact d9
            · rw [(A 17 (by decide)).2.2.1, (A 18 (by decide)).2.2.1]; exact d10
          · exact m3.fr hr (by decide)
          · intro n h0 hn
            obtain ⟨a, b1, b2, b3⟩ := (m4.fr hr (by decide)) n h0 hn
            refine ⟨cmQ_word a, b1, b2, fun h12 => ?_⟩
            have ht : tyQ g.w (g.t.cm n) := by
              rcases a with h | ⟨v, h, h1, h2, h3, h4⟩
              · exact h
              · have h12 : (g.t.cm n).1 < 12 := h12
                rw [h4] at h12
                have : v < 12 := h12
                omega
            show τ1.2.2.1 27 n = nI (sText (wWord g.w g.l) (g.t.cm n)).length ∧ (sText (wWord g.w g.l) (g.t.cm n)).length ≤ 30 ∧ (∀ c ∈ sText (wWord g.w g.l) (g.t.cm n), c < 1000) ∧ ∀ k, k < (sText (wWord g.w g.l) (g.t.cm n)).length → τ1.2.2.1 26 (30 * n + k) = nI ((sText (wWord g.w g.l) (g.t.cm n)).getD k 0)
            rw [sText_word ht]
            exact b3 h12
    exact nam _ rfl
  · rw [if_neg q, if_pos (show lg_cmp (sP8 g.l) 0 = nI 0 from lg0.mpr ((sP8_0 hl.2).mpr (Bool.eq_false_iff.mpr q)))]
    exact Alk.x (c := 1) (j := 0) (v := 0) hR rfl (bad 1 (by omega) (by omega)) rfl
end B20
