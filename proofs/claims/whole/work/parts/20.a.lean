/-! What is told ahead of play: frames; type. -/
def cWf : List (Nat × Nat) := cWk ++ [(1, 0), (14, 0), (5, 0), (12, 12), (15, 3)]
theorem cWf_no {ps : List (Nat × Nat)} (hp : ∀ q ∈ ps, q ∈ cWf) {k i : Nat} (h : k = 4 ∨ k = 6 ∨ k = 7 ∨ k = 8 ∨ k = 9 ∨ k = 10 ∨ k = 11 ∨ k = 16 ∨ k = 17 ∨ (k = 12 ∧ 13 ≤ i) ∨ (k = 12 ∧ i = 11) ∨ (k = 13 ∧ 1 ≤ i)) : (k, i) ∉ ps := by
  intro hq
  have := hp _ hq
  unfold cWf cWk at this
  simp at this
  omega
section A20
variable {g : Gm} {σ σ' : cS} {τ τ' : mS} {ps : List (Nat × Nat)} {ks : List Nat}
theorem CTr.fw {t : Tr} (h : CTr σ t) (hf : cFr ps σ σ') (hL : cLbs σ) (hp : ∀ q ∈ ps, q ∈ cWf) (hc : cn σ' = cn σ) : CTr σ' t := by
  obtain ⟨⟨C1, C2, C3, C4, C5, C6⟩, CN, CP⟩ := h
  have no : ∀ k i, (k = 4 ∨ k = 6 ∨ k = 7 ∨ k = 8 ∨ k = 9 ∨ k = 10 ∨ k = 11 ∨ k = 16 ∨ k = 17 ∨ (k = 12 ∧ 13 ≤ i) ∨ (k = 12 ∧ i = 11) ∨ (k = 13 ∧ 1 ≤ i)) → (k, i) ∉ ps := fun k i h => cWf_no hp h
  refine ⟨⟨?_, (C2.fr hf (no 10 0 (by omega)) (fun e _ => no 17 e (by omega))).1, by rw [hc]; exact C3, by rw [hc]; exact C4, by rw [hc]; exact C5, by rw [hc]; exact C6⟩, ?_, ?_⟩
  · rw [((hf.2 4 0 (Nat.lt_of_lt_of_le (by decide) (hL 4 (by decide)))).2.2 (no 4 0 (by omega))).1]; exact C1
  · intro n hn
    obtain ⟨r0, r1, r2, r3, r4, r5, c', r6, r7⟩ := CN n hn
    obtain ⟨a1, a2, a3⟩ := (hf.2 7 n (by rw [C3]; exact hn)).2.2 (no 7 n (by omega))
    rw [a1, a2, a3]
    refine ⟨r0, r1, r2, r3, r4, r5.fr hf (fun q hq hq2 => ?_), c', r6, r7.fr hf (no 8 c' (by omega))⟩
    unfold cSc at hq2
    simp at hq2
    rcases hq2 with rfl | rfl | rfl | rfl
    · exact no 6 _ (by omega) hq
    · exact no 12 _ (by omega) hq
    · exact no 12 _ (by omega) hq
    · exact no 13 _ (by omega) hq
  · intro k hk
    rw [((hf.2 12 11 (Nat.lt_of_lt_of_le (by decide) (hL 12 (by decide)))).2.2 (no 12 11 (by omega))).1]
    exact CP k hk
theorem RSt0.fw {s : St} (h : RSt σ 0 s) (hf : cFr ps σ σ') (hp : ∀ q ∈ ps, q ∈ cWf) : RSt σ' 0 s := by
  refine h.fr hf (fun q hq hq2 => ?_)
  unfold cSc at hq2
  simp at hq2
  rcases hq2 with rfl | rfl | rfl | rfl
  · exact cWf_no hp (by omega) hq
  · exact cWf_no hp (by omega) hq
  · exact cWf_no hp (by omega) hq
  · exact cWf_no hp (by omega) hq
/-- the class, where the world or what is typed is changed -/
theorem CR.fw {w' : Wd} {l' : List Nat} (h : CR σ g) (hf : cFr ps σ σ') (hp : ∀ q ∈ ps, q ∈ cWk ++ [(1, 0), (14, 0)]) (hc : cn σ' = cn σ) (hW : CWd σ' w') (hX : CTx σ' l') : CR σ' (w', l', g.t, g.p) := by
  obtain ⟨-, -, h3, h4, h5, h6, h7, s, h8⟩ := h
  have hp' : ∀ q ∈ ps, q ∈ cWf := fun q hq => by
    have := hp q hq
    unfold cWf
    rw [List.mem_append] at this ⊢
    rcases this with h | h
    · exact Or.inl h
    · refine Or.inr ?_
      simp at h ⊢
      rcases h with h | h
      · exact Or.inl h
      · exact Or.inr (Or.inl h)
  have no2 : ∀ q : Nat × Nat, (q = (5, 0) ∨ q = (12, 12) ∨ q = (15, 3)) → q ∉ ps := by
    intro q h hq
    have := hp q hq
    unfold cWk at this
    rcases h with rfl | rfl | rfl <;> simp at this
  refine ⟨hW, hX, h3.fw hf h6 hp' hc, h4.fr hf h6 (no2 _ (Or.inl rfl)) (no2 _ (Or.inr (Or.inl rfl))) (no2 _ (Or.inr (Or.inr rfl))) (cWf_no hp' (by omega)) (fun e _ => cWf_no hp' (by omega)) (fun s _ => cWf_no hp' (by omega)) (by rw [hc]), ⟨h5.1.fr hf h6 (cWf_no hp' (by omega)) (cWf_no hp' (by omega)), h5.2.fr h6 hf (fun q hq => ⟨fun z => cWf_no hp' (k := q.1) (i := q.2) (by omega) hq, fun z => cWf_no hp' (k := q.1) (i := q.2) (by omega) hq⟩)⟩, h6.fr hf, by rw [hc]; exact h7, s, RSt0.fw h8 hf hp'⟩
/-- what is told ahead of play -/
theorem Rel.ahead {w' : Wd} (hR : Rel g σ τ) (h0 : g.t.N = 0) (hw' : Wd.ok w') (hWW : w'.W = g.w.W) (hf : cFr ps σ σ') (hp : ∀ q ∈ ps, q ∈ cWk) (hc : cn σ' = cn σ) (hr : mFr ks τ τ') (hk : ∀ k ∈ ks, k ∈ 0 :: mWk) (hC : CWd σ' w') (hM : MWd τ' w') : Rel (w', g.l, g.t, g.p) σ' τ' := by
  obtain ⟨⟨k1, k2, ⟨a1, a2, a3, a4⟩, ⟨s1, s2, s3, s4, s5, s6, s7⟩, k5, k6⟩, hCR, ⟨m1, m2, ⟨⟨b1, b2, b3⟩, b4⟩, m4, m5, m6⟩⟩ := hR
  have nk : ∀ k, k ∉ (0 :: mWk) → k ∉ ks := fun k h h2 => h (hk k h2)
  have hX' : CTx σ' g.l := hCR.2.1.fr hCR.2.2.2.2.2.1 hf (fun h => absurd (hp _ h) (by decide)) (fun h => absurd (hp _ h) (by decide))
  have z : ∀ {P : Prop} {n : Nat}, n < g.t.N → P := fun h => by omega
  refine ⟨⟨hw', k2, ⟨a1, fun n _ h => z h, fun n h => z h, fun n m h => z h⟩, ⟨s1, ?_, s3, s4, s5, fun n _ h => z h, s7⟩, fun n _ h => z h, fun h => z h⟩, hCR.fw hf (fun q hq => List.mem_append_left _ (hp q hq)) hc hC hX', hM, m2.fr hr (nk 1 (by decide)) (nk 2 (by decide)), ⟨⟨?_, ?_, ?_⟩, fun n h => z h⟩, fun n _ h => z h, fun n h => z h, m6.fr hr (fun k q => nk k (by revert k; decide))⟩
  · intro h
    have := s2 h
    show wset w'.W (g.p.te h) ∧ _
    rw [hWW]
    exact this
  · rw [(hr 33 (nk 33 (by decide))).1]; exact b1
  · rw [(hr 34 (nk 34 (by decide))).1]; exact b2
  · rw [(hr 20 (nk 20 (by decide))).1]; exact b3
/-- whether a number lies between two -/
def vBt (v : Int32) (a b : Nat) : Bool := decide ((a : Int) ≤ v.toInt ∧ v.toInt ≤ (b : Int))
theorem vBt_of {v : Int32} {a b : Nat} (hb : b < 100000) (h : vBt v a b = true) : v = nI v.toNatClampNeg ∧ a ≤ v.toNatClampNeg ∧ v.toNatClampNeg ≤ b := by
  have h' : (a : Int) ≤ v.toInt ∧ v.toInt ≤ (b : Int) := of_decide_eq_true h
  have n0' : ¬ v < 0 := by
    rw [Int32.lt_iff_toInt_lt]
    have e0 : (0 : Int32).toInt = 0 := rfl
    omega
  obtain ⟨j, hj, rfl⟩ := nI_of n0'
  rw [nI_toInt hj] at h'
  rw [nI_clamp hj]
  exact ⟨rfl, by omega, by omega⟩
theorem vBt_n {c a b : Nat} (hc : c < 100000) : vBt (nI c) a b = decide (a ≤ c ∧ c ≤ b) := by
  unfold vBt
  rw [nI_toInt (by omega)]
  exact decide_eq_decide.mpr ⟨fun h => ⟨by omega, by omega⟩, fun h => ⟨by omega, by omega⟩⟩
theorem fm_betw_v (v : Int32) {a b : Nat} (ha : a < 100000) (hb : b < 100000) : fm_isBetween v (nI a) (nI b) = some (bI (vBt v a b)) := by
  unfold fm_isBetween fm_isBetween_14 fm_isBetween_15 vBt
  rw [if_pos (show (0 : Int32) &&& 1 = 0 by decide), if_pos (show (1 : Int32) &&& 1 = 1 by decide)]
  by_cases q1 : v < nI a
  · rw [if_pos q1, decide_eq_false]
    · rfl
    · rw [Int32.lt_iff_toInt_lt, nI_toInt (by omega)] at q1
      omega
  · rw [if_neg q1]
    rw [Int32.lt_iff_toInt_lt, nI_toInt (by omega)] at q1
    by_cases q2 : nI b < v
    · rw [if_pos q2, decide_eq_false]
      · rfl
      · rw [Int32.lt_iff_toInt_lt, nI_toInt (by omega)] at q2
        omega
    · rw [if_neg q2, decide_eq_true]
      · rfl
      · rw [Int32.lt_iff_toInt_lt, nI_toInt (by omega)] at q2
        omega
theorem bt_c {α : Type} (v : Int32) {a b : Nat} (ha : a < 100000) (hb : b < 100000) (X Y : α) : (if v < nI a then X else if v ≤ nI b then Y else X) = if vBt v a b = true then Y else X := by
  unfold vBt
  by_cases q1 : v < nI a
  · rw [if_pos q1, if_neg]
    rw [Int32.lt_iff_toInt_lt, nI_toInt (by omega)] at q1
    rw [decide_eq_true_iff]
    omega
  · rw [if_neg q1]
    rw [Int32.lt_iff_toInt_lt, nI_toInt (by omega)] at q1
    by_cases q2 : v ≤ nI b
    · rw [if_pos q2, if_pos]
      rw [Int32.le_iff_toInt_le, nI_toInt (by omega)] at q2
      rw [decide_eq_true_iff]
      omega
    · rw [if_neg q2, if_neg]
      rw [Int32.le_iff_toInt_le, nI_toInt (by omega)] at q2
      rw [decide_eq_true_iff]
      omega
theorem getD_app (l : List Nat) (c k : Nat) : (l ++ [c]).getD k 0 = if k = l.length then c else l.getD k 0 := by
  rw [List.getD_eq_getElem?_getD, List.getD_eq_getElem?_getD]
  by_cases h : k < l.length
  · rw [List.getElem?_append_left h, if_neg (by omega)]
  · rw [List.getElem?_append_right (by omega)]
    by_cases e : k = l.length
    · rw [if_pos e, e, Nat.sub_self]; rfl
    · rw [if_neg e, List.getElem?_eq_none (by simp; omega), List.getElem?_eq_none (by omega)]
theorem meth_type (hR : Rel g σ τ) {c : Nat} (hc : c < 65536) : Alk [1, 2] g (fc_X11_type σ (nI c)) (fm_type τ (nI c)) := by
  have hX := hR.2.1.2.1
  have hM := hR.2.2.2.1
  have hl := hR.1.2.1
  have h30 := hl.1
  have bad : ∀ k, 0 < k → k < 1000 → fm_type_36 τ (nI c) (nI k) = some (0, mI τ 0 (nI k)) := fun k h1 h2 => by
    unfold fm_type_36
    rw [wrong_s τ (by omega) h1]
    exact if_neg nz1
  have good : (c = 32 ∨ (97 ≤ c ∧ c ≤ 122)) → Alk [1, 2] g (fc_X11_type_28 σ (nI c)) (fm_type_22 τ (nI c)) := by
    intro q
    unfold fc_X11_type_28 fm_type_22
    rw [hX.1, hM.1, show (30 : Int32) = nI 30 from rfl]
    by_cases z : g.l.length = 30
    · rw [if_neg (show ¬ nI g.l.length < nI 30 by rw [jLt (by omega) (by omega)]; omega), if_pos (show nI g.l.length = nI 30 by rw [z])]
      exact Alk.x (c := 2) (j := 1) (v := 0) hR rfl (bad 2 (by omega) (by omega)) rfl
    · rw [if_pos (show nI g.l.length < nI 30 by rw [jLt (by omega) (by omega)]; omega), if_neg (show ¬ nI g.l.length = nI 30 by rw [jEq (by omega) (by omega)]; exact z)]
      have x1 : ¬ 30 ≤ g.l.length := by omega
      have y : (nI g.l.length < nI 0 ∨ False) = False := by
        rw [jLt (by omega) (by omega)]
        simp
      obtain ⟨σ1, hσ⟩ : ∃ σ1, σ1 = uI (uI σ 14 0 g.l.length (nI c)) 1 0 3 (nI (g.l.length + 1)) := ⟨_, rfl⟩
      obtain ⟨τ1, hτ⟩ : ∃ τ1, τ1 = mI (mA (mI τ 0 (nI 0)) 1 g.l.length (nI c)) 2 (nI (g.l.length + 1)) := ⟨_, rfl⟩
      have ef : fc_X7_add σ (nI c) = some σ1 := by
        unfold fc_X7_add fc_X7_add_29
        rw [show (30 : Int32) = nI 30 from rfl, show (0 : Int32) = nI 0 from rfl, hX.1, if_neg (show ¬ nI 30 ≤ nI g.l.length by rw [jLe (by omega) (by omega)]; omega), ch128 c (by omega)]
        have e3 : cI (uI σ 14 0 g.l.length (nI c)) 1 0 3 = nI g.l.length := hX.1
        simp only [jCl (show g.l.length < 100000 by omega), x1, y, if_false, e3]
        rw [hσ, ← jAdd]
        rfl
      have em : fm_type_36 τ (nI c) 0 = some (nI (g.l.length + 1), τ1) := by
        unfold fm_type_36
        rw [show (0 : Int32) = nI 0 from rfl, right_s]
        have e2 : (mI τ 0 (nI 0)).1 2 = nI g.l.length := hM.1
        show (if nI 0 = nI 0 then (if (mI τ 0 (nI 0)).1 2 < nI 0 ∨ 30 ≤ ((mI τ 0 (nI 0)).1 2).toNatClampNeg then none else some ((mI (mA (mI τ 0 (nI 0)) 1 ((mI τ 0 (nI 0)).1 2).toNatClampNeg (nI c)) 2 ((mI τ 0 (nI 0)).1 2 + nI 1)).1 2, mI (mA (mI τ 0 (nI 0)) 1 ((mI τ 0 (nI 0)).1 2).toNatClampNeg (nI c)) 2 ((mI τ 0 (nI 0)).1 2 + nI 1))) else _) = _
        rw [if_pos rfl, mI_at, e2]
        simp only [jCl (show g.l.length < 100000 by omega), x1, y, if_false, jAdd]
        rw [hτ]
      rw [ef, Option.bind_some, em]
      have hf : cFr [(1, 0), (14, 0)] σ σ1 := by rw [hσ]; exact (cFr.I (by simp)).tr (cFr.I (by simp))
      have hr : mFr [0, 1, 2] τ τ1 := by rw [hτ]; exact ((mFr.I (by decide)).tr (mFr.A (by decide))).tr (mFr.I (by decide))
      have hn : cn σ1 = cn σ := by rw [hσ]; rfl
      have hL := hR.2.1.2.2.2.2.2.1
      have el : (g.l ++ [c]).length = g.l.length + 1 := by simp
      have eσ : cI σ1 1 0 3 = nI (g.l.length + 1) := by rw [hσ, uI_at, if_pos rfl]
      have hX1 : CTx σ1 (g.l ++ [c]) := by
        refine ⟨by rw [el]; exact eσ, fun k hk => ?_⟩
        rw [getD_app, hσ, uI_ne _ _ _ (by decide), uI_at]
        rw [el] at hk
        by_cases e : k = g.l.length
        · rw [if_pos e, if_pos e]
        · rw [if_neg e, if_neg e]
          exact hX.2 k (by omega)
      have hM1 : MTx τ1 (g.l ++ [c]) := by
        refine ⟨by rw [el, hτ]; exact mI_at _ _ _, fun k hk => ?_⟩
        rw [getD_app, hτ]
        show (mA (mI τ 0 (nI 0)) 1 g.l.length (nI c)).2.2.1 1 k = _
        rw [mA_at]
        rw [el] at hk
        by_cases e : k = g.l.length
        · rw [if_pos e, if_pos e]
        · rw [if_neg e, if_neg e]
          exact hM.2 k (by omega)
      have hl1 : isTx (g.l ++ [c]) := by
        refine ⟨by rw [el]; omega, fun d hd => ?_⟩
        rw [List.mem_append] at hd
        rcases hd with h | h
        · exact hl.2 d h
        · rw [List.mem_singleton] at h
          rw [h]
          exact q
      obtain ⟨⟨k1, k2, k3⟩, hCR, ⟨m1, m2, m3, m4, m5, m6⟩⟩ := hR
      refine ⟨(g.w, g.l ++ [c], g.t, g.p), .inr (nI (g.l.length + 1)), σ1, nI (g.l.length + 1), τ1, by rw [eσ], rfl, ?_, ⟨k1, hl1, k3⟩, hCR.fw hf (by decide) hn (hCR.1.fr hL hf (by decide)) hX1, m1.fr hr (by decide), hM1, m3.fr hr (by decide), m4.fr hr (by decide), m5.fr hr (by decide), m6.fr hr (by decide)⟩
      rw [hτ, mI_ne _ _ (by decide)]
      show Agr _ _ _ ((mI τ 0 (nI 0)).1 0)
      rw [mI_at]
      exact Agr.v
  unfold fc_X11_type fm_type fc_X11_type_18
  rw [show (97 : Int32) = nI 97 from rfl, show (122 : Int32) = nI 122 from rfl, show (32 : Int32) = nI 32 from rfl, fm_betw_v _ (by omega) (by omega), Option.bind_some, bt_c _ (by omega) (by omega), bI_if, vBt_n (by omega)]
  by_cases q : c = 32
  · rw [if_pos (show nI c = nI 32 by rw [q]), if_neg (show ¬ decide (97 ≤ c ∧ c ≤ 122) = true by rw [decide_eq_true_iff]; omega), if_pos (show nI c = nI 32 by rw [q])]
    exact good (Or.inl q)
  · have q' : ¬ nI c = nI 32 := by rw [jEq (by omega) (by omega)]; exact q
    rw [if_neg q', if_neg q']
    by_cases q2 : 97 ≤ c ∧ c ≤ 122
    · rw [if_pos (decide_eq_true q2), if_pos (decide_eq_true q2)]
      exact good (Or.inr q2)
    · rw [if_neg (show ¬ decide (97 ≤ c ∧ c ≤ 122) = true by rw [decide_eq_true_iff]; exact q2), if_neg (show ¬ decide (97 ≤ c ∧ c ≤ 122) = true by rw [decide_eq_true_iff]; exact q2)]
      exact Alk.x (c := 1) (j := 0) (v := 0) hR rfl (bad 1 (by omega) (by omega)) rfl
end A20
