/-! A node's state taken up: both sides. -/
/-- the reference's node n holds the state s -/
def MNd (τ : mS) (T n : Nat) (s : St) : Prop :=
  τ.2.2.1 21 n = nI s.rm ∧ ∀ x, x < T → τ.2.2.1 22 (12 * n + x) = nI (s.pl x) ∧ τ.2.2.1 24 (12 * n + x) = nI (s.fu x) ∧ τ.2.2.1 23 (12 * n + x) = bI (s.on x)
theorem MNd.fr {ks : List Nat} {τ τ' : mS} {T n : Nat} {s : St} (h : MNd τ T n s) (hf : mFr ks τ τ') (hk : ∀ k ∈ ([21, 22, 23, 24] : List Nat), k ∉ ks) : MNd τ' T n s := by
  have ga : ∀ k ∈ ([21, 22, 23, 24] : List Nat), τ'.2.2.1 k = τ.2.2.1 k := fun k q => (hf k (hk k q)).2.2.1
  unfold MNd
  rw [ga 21 (by decide), ga 22 (by decide), ga 23 (by decide), ga 24 (by decide)]
  exact h
theorem fm_takesUp_l {w : Wd} {s : St} {k : Nat} (hT : w.T ≤ 12) (hk : k < 80) : ∀ (d x n : Nat) (τ : mS), x + d = w.T → d < n → τ.1 16 = nI w.T → MNd τ w.T k s → (∀ y, y < x → τ.2.2.1 36 y = nI (s.pl y) ∧ τ.2.2.1 38 y = nI (s.fu y) ∧ τ.2.2.1 37 y = bI (s.on y)) → ∃ τ', fm_takesUp_17 n τ (nI k) (nI x) = some τ' ∧ (∀ y, y < w.T → τ'.2.2.1 36 y = nI (s.pl y) ∧ τ'.2.2.1 38 y = nI (s.fu y) ∧ τ'.2.2.1 37 y = bI (s.on y)) ∧ mFr [36, 37, 38] τ τ' := by
  intro d
  induction d with
  | zero =>
    intro x n τ hx hn eT hN hy
    obtain ⟨n, rfl⟩ : ∃ k, n = k + 1 := ⟨n - 1, by omega⟩
    have x1 : w.T ≤ x := by omega
    refine ⟨τ, ?_, fun y h => hy y (by omega), mFr.rf _ _⟩
    rw [fm_takesUp_17]
    simp (disch := omega) only [eT, jLe, x1, if_true]
  | succ d ih =>
    intro x n τ hx hn eT hN hy
    obtain ⟨n, rfl⟩ : ∃ k, n = k + 1 := ⟨n - 1, by omega⟩
    have x1 : ¬ w.T ≤ x := by omega
    have x2 : ¬ 12 ≤ x := by omega
    have x3 : ¬ 960 ≤ 12 * k + x := by omega
    have c1 : (nI x).toNatClampNeg = x := jCl (by omega)
    have c2 : (nI (12 * k + x)).toNatClampNeg = 12 * k + x := jCl (by omega)
    obtain ⟨e1, e2, e3⟩ := hN.2 x (by omega)
    have fr : mFr [36, 37, 38] τ (mA (mA (mA τ 36 x (nI (s.pl x))) 37 x (bI (s.on x))) 38 x (nI (s.fu x))) := ((mFr.A (by decide)).tr (mFr.A (by decide))).tr (mFr.A (by decide))
    have hy' : ∀ y, y < x + 1 → (mA (mA (mA τ 36 x (nI (s.pl x))) 37 x (bI (s.on x))) 38 x (nI (s.fu x))).2.2.1 36 y = nI (s.pl y) ∧ (mA (mA (mA τ 36 x (nI (s.pl x))) 37 x (bI (s.on x))) 38 x (nI (s.fu x))).2.2.1 38 y = nI (s.fu y) ∧ (mA (mA (mA τ 36 x (nI (s.pl x))) 37 x (bI (s.on x))) 38 x (nI (s.fu x))).2.2.1 37 y = bI (s.on y) := fun y h => by
      rw [mA_ne _ _ _ (show (36 : Nat) ≠ 38 by decide), mA_ne _ _ _ (show (36 : Nat) ≠ 37 by decide), mA_at, mA_at, mA_ne _ _ _ (show (37 : Nat) ≠ 38 by decide), mA_at, mA_ne _ _ _ (show (38 : Nat) ≠ 37 by decide), mA_ne _ _ _ (show (38 : Nat) ≠ 36 by decide), mA_ne _ _ _ (show (37 : Nat) ≠ 36 by decide)]
      by_cases q : y = x
      · subst q
        rw [if_pos rfl, if_pos rfl, if_pos rfl]
        exact ⟨rfl, rfl, rfl⟩
      · rw [if_neg q, if_neg q, if_neg q]
        exact hy y (by omega)
    obtain ⟨τ', g1, g2, g3⟩ := ih (x + 1) n (mA (mA (mA τ 36 x (nI (s.pl x))) 37 x (bI (s.on x))) 38 x (nI (s.fu x))) (by omega) (by omega) eT (hN.fr fr (by decide)) hy'
    refine ⟨τ', ?_, g2, fr.tr g3⟩
    rw [fm_takesUp_17]
    simp (disch := first | omega | decide) only [n0, n1, n12, eT, jLe, jLt, jMul, jAdd, x1, x2, x3, c1, c2, e1, e2, e3, mA_ne, bI_z, ne_eq, Nat.not_lt_zero, false_or, if_false]
    exact g1
theorem fm_takesUp_s {τ : mS} {w : Wd} {s : St} {k : Nat} (hw : Wd.ok w) (hW : MWd τ w) (hk : k < 80) (hN : MNd τ w.T k s) : ∃ τ', fm_takesUp τ (nI k) = some τ' ∧ MSt τ' w.T s ∧ τ'.2.1 39 = 0 ∧ mFr [35, 36, 37, 38, 39] τ τ' := by
  have hT : w.T ≤ 12 := hw.1.2.2.1
  have c1 : (nI k).toNatClampNeg = k := jCl (by omega)
  have x1 : ¬ 80 ≤ k := by omega
  have fr : mFr [35, 36, 37, 38, 39] τ (mJ (mI τ 35 (nI s.rm)) 39 0) := (mFr.I (by decide)).tr (mFr.J (by decide))
  obtain ⟨τ', g1, g2, g3⟩ := fm_takesUp_l (s := s) (k := k) hT hk w.T 0 3000 (mJ (mI τ 35 (nI s.rm)) 39 0) (by omega) (by omega) hW.1.2.2.1 (hN.fr fr (by decide)) (fun y h => by omega)
  refine ⟨τ', ?_, ⟨?_, g2⟩, ?_, fr.tr (g3.wk (by decide))⟩
  · unfold fm_takesUp
    simp (disch := omega) only [n0, c1, x1, hN.1, jLt, Nat.not_lt_zero, false_or, if_false]
    exact g1
  · rw [(g3 35 (by decide)).1]; rfl
  · rw [(g3 39 (by decide)).2.1]; rfl
theorem RSt.to {σ : cS} {i : Nat} {s s' : St} (h : RSt σ i s) (h0 : s.rm = s'.rm) (he : ∀ x, x < 12 → s.pl x = s'.pl x ∧ s.fu x = s'.fu x ∧ s.on x = s'.on x) : RSt σ i s' := by
  refine ⟨h.1, h.2.1, h.2.2.1.trans (by rw [h0]), fun x hx => ?_⟩
  obtain ⟨e1, e2, e3⟩ := he x hx
  rw [← e1, ← e2, ← e3]
  exact h.2.2.2 x hx
theorem fc_copy_l {i j : Nat} {s : St} (hij : i ≠ j) : ∀ (d x n : Nat) (σ : cS) (s0 : St), x + d = 12 → d < n → RSt σ j s → RSt σ i s0 → s0.rm = s.rm → (∀ y, y < x → s0.pl y = s.pl y ∧ s0.fu y = s.fu y ∧ s0.on y = s.on y) → ∃ σ', fc_X6_copy_10 n σ (some i) (some j) (nI x) = some σ' ∧ RSt σ' i s ∧ cFr (cSc i) σ σ' ∧ cn σ' = cn σ := by
  intro d
  induction d with
  | zero =>
    intro x n σ s0 hx hn hj hi h0 hy
    obtain ⟨n, rfl⟩ : ∃ k, n = k + 1 := ⟨n - 1, by omega⟩
    have x1 : 12 ≤ x := by omega
    refine ⟨σ, ?_, hi.to h0 (fun y h => hy y (by omega)), cFr.rf _ _, rfl⟩
    rw [fc_X6_copy_10]
    simp (disch := omega) only [n12, jLe, x1, if_true]
  | succ d ih =>
    intro x n σ s0 hx hn hj hi h0 hy
    obtain ⟨n, rfl⟩ : ∃ k, n = k + 1 := ⟨n - 1, by omega⟩
    have x1 : ¬ 12 ≤ x := by omega
    have c1 : (nI x).toNatClampNeg = x := jCl (by omega)
    have f0 : cFr (cSc i) σ (uI σ 12 (13 + 2 * i) x (nI (s.pl x))) := cFr.I (by simp [cSc])
    have hi1 := hi.uPl x (s.pl x)
    have hj1 := hj.fr f0 (cSc_ne hij)
    have f1 : cFr (cSc i) (uI σ 12 (13 + 2 * i) x (nI (s.pl x))) (uI (uI σ 12 (13 + 2 * i) x (nI (s.pl x))) 12 (14 + 2 * i) x (nI (s.fu x))) := cFr.I (by simp [cSc])
    have hi2 := hi1.uFu x (s.fu x)
    have hj2 := hj1.fr f1 (cSc_ne hij)
    have f2 : cFr (cSc i) (uI (uI σ 12 (13 + 2 * i) x (nI (s.pl x))) 12 (14 + 2 * i) x (nI (s.fu x))) (uI (uI (uI σ 12 (13 + 2 * i) x (nI (s.pl x))) 12 (14 + 2 * i) x (nI (s.fu x))) 13 (1 + i) x (bI (s.on x))) := cFr.I (by simp [cSc])
    have hi3 := hi2.uOn x (s.on x)
    have hj3 := hj2.fr f2 (cSc_ne hij)
    obtain ⟨σ', g1, g2, g3, g4⟩ := ih (x + 1) n _ _ (by omega) (by omega) hj3 hi3 h0 (fun y h => by
      show (if y = x then s.pl x else s0.2.1 y) = _ ∧ (if y = x then s.fu x else s0.2.2.1 y) = _ ∧ (if y = x then s.on x else s0.2.2.2 y) = _
      by_cases q : y = x
      · subst q
        rw [if_pos rfl, if_pos rfl, if_pos rfl]
        exact ⟨rfl, rfl, rfl⟩
      · rw [if_neg q, if_neg q, if_neg q]
        exact hy y (by omega))
    refine ⟨σ', ?_, g2, ((f0.tr f1).tr f2).tr g3, g4⟩
    obtain ⟨a1, a2, a3, a4⟩ := hi.cons
    obtain ⟨b1, b2, b3, b4⟩ := hj.cons
    obtain ⟨a11, a12, a13, a14⟩ := hi1.cons
    obtain ⟨b11, b12, b13, b14⟩ := hj1.cons
    obtain ⟨a21, a22, a23, a24⟩ := hi2.cons
    obtain ⟨b21, b22, b23, b24⟩ := hj2.cons
    obtain ⟨-, -, l1, l2, l3⟩ := hi.2.1
    obtain ⟨-, -, m1, m2, m3⟩ := hj.2.1
    obtain ⟨-, -, l11, l12, l13⟩ := hi1.2.1
    obtain ⟨-, -, m11, m12, m13⟩ := hj1.2.1
    obtain ⟨-, -, l21, l22, l23⟩ := hi2.2.1
    obtain ⟨-, -, m21, m22, m23⟩ := hj2.2.1
    have v1 := (hj.2.2.2 x (by omega)).1
    have v2 := (hj1.2.2.2 x (by omega)).2.1
    have v3 := (hj2.2.2.2 x (by omega)).2.2
    rw [fc_X6_copy_10]
    rw [if_neg (show ¬ (12 : Int32) ≤ nI x by rw [n12, jLe (by omega) (by omega)]; exact x1), a1, Option.bind_some, b1, Option.bind_some, b2, Option.bind_some, a2]
    simp (disch := omega) only [Option.bind_some, n0, n1, c1, x1, m1, l1, v1, jLt, Nat.not_lt_zero, false_or, if_false, b13, a13, m12, l12, v2, b24, a24, m23, l23, v3, bI_z, jAdd]
    exact g1
theorem fc_copy_s {σ : cS} {i j : Nat} {s s0 : St} (hij : i ≠ j) (hj : RSt σ j s) (hi : RSt σ i s0) : ∃ σ', fc_X6_copy σ (some i) (some j) = some σ' ∧ RSt σ' i s ∧ cFr (cSc i) σ σ' ∧ cn σ' = cn σ := by
  have f0 : cFr (cSc i) σ (uI σ 6 i 0 (nI s.rm)) := cFr.I (by simp [cSc])
  obtain ⟨σ', g1, g2, g3, g4⟩ := fc_copy_l hij 12 0 3000 (uI σ 6 i 0 (nI s.rm)) (sRm s0 s.rm) (by omega) (by omega) (hj.fr f0 (cSc_ne hij)) (hi.uRm s.rm) rfl (fun y h => by omega)
  refine ⟨σ', ?_, g2, f0.tr g3, g4⟩
  unfold fc_X6_copy
  rw [hj.cons.1, Option.bind_some, hi.cons.1, Option.bind_some, hj.2.2.1, n0]
  exact g1
