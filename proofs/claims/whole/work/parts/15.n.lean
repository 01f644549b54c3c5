/-! A node's state taken up: both sides. -/
/-- the reference's node n holds the state s -/
def MNd (τ : mS) (T n : Nat) (s : St) : Prop :=
  τ.2.2.1 21 n = nI s.rm ∧ ∀ x, x < T → τ.2.2.1 22 (12 * n + x) = nI (s.pl x) ∧ τ.2.2.1 24 (12 * n + x) = nI (s.fu x) ∧ τ.2.2.1 23 (12 * n + x) = bI (s.on x)
theorem MNd.fr {ks : List Nat} {τ τ' : mS} {T n : Nat} {s : St} (h : MNd τ T n s) (hf : mFr ks τ τ') (hk : ∀ k ∈ ([21, 22, 23, 24] : List Nat), k ∉ ks) : MNd τ' T n s := by
  have ga : ∀ k ∈ ([21, 22, 23, 24] : List Nat), τ'.2.2.1 k = τ.2.2.1 k := fun k q => (hf k (hk k q)).2.2.1
  unfold MNd
  rw [ga 21 (by decide), ga 22 (by decide), ga 23 (by decide), ga 24 (by decide)]
  exact h
theorem fm_takesUp_l {w : Wd} {s : St} {k : Nat} (hT : w.T ≤ 12) (hk : k < 80) : ∀ (d x n : Nat) (τ : mS), x + d = w.T → d < n → τ.1 16 = nI w.T → MNd τ w.T k s → (∀ y, y < x → τ.2.2.1 36 y = nI (s.pl y) ∧ τ.2.2.1 38 y = nI (s.fu y) ∧ τ.2.2.1 37 y = bI (s.on y)) → ∃ τ', fm_takesUp_17 n τ (nI k) (nI x) = some τ' ∧ (∀ y, y < w.T → τ'.2.2.1 36 y = nI (s.pl y) ∧ τ'.2.2.1 38 y = nI (s.fu y) ∧ τ'.2.2.1 37 y = bI (s.on y)) ∧ mFr [36, 37, 38] τ τ' := by
  intro d
  induction d with
  | zero =>
    intro x n τ hx hn eT hN hy
    obtain ⟨n, rfl⟩ : ∃ k, n = k + 1 := ⟨n - 1, by omega⟩
    have x1 : w.T ≤ x := by omega
    refine ⟨τ, ?_, fun y h => hy y (by omega), mFr.rf _ _⟩
    rw [fm_takesUp_17]
    simp (disch := omega) only [eT, jLe, x1, if_true]
  | succ d ih =>
    intro x n τ hx hn eT hN hy
    obtain ⟨n, rfl⟩ : ∃ k, n = k + 1 := ⟨n - 1, by omega⟩
    have x1 : ¬ w.T ≤ x := by omega
    have x2 : ¬ 12 ≤ x := by omega
    have x3 : ¬ 960 ≤ 12 * k + x := by omega
    have c1 : (nI x).toNatClampNeg = x := jCl (by omega)
    have c2 : (nI (12 * k + x)).toNatClampNeg = 12 * k + x := jCl (by omega)
    obtain ⟨e1, e2, e3⟩ := hN.2 x (by omega)
    have fr : mFr [36, 37, 38] τ (mA (mA (mA τ 36 x (nI (s.pl x))) 37 x (bI (s.on x))) 38 x (nI (s.fu x))) := ((mFr.A (by decide)).tr (mFr.A (by decide))).tr (mFr.A (by decide))
    have hy' : ∀ y, y < x + 1 → (mA (mA (mA τ 36 x (nI (s.pl x))) 37 x (bI (s.on x))) 38 x (nI (s.fu x))).2.2.1 36 y = nI (s.pl y) ∧ (mA (mA (mA τ 36 x (nI (s.pl x))) 37 x (bI (s.on x))) 38 x (nI (s.fu x))).2.2.1 38 y = nI (s.fu y) ∧ (mA (mA (mA τ 36 x (nI (s.pl x))) 37 x (bI (s.on x))) 38 x (nI (s.fu x))).2.2.1 37 y = bI (s.on y) := fun y h => by
      rw [mA_ne _ _ _ (show (36 : Nat) ≠ 38 by decide), mA_ne _ _ _ (show (36 : Nat) ≠ 37 by decide), mA_at, mA_at, mA_ne _ _ _ (show (37 : Nat) ≠ 38 by decide), mA_at, mA_ne _ _ _ (show (38 : Nat) ≠ 37 by decide), mA_ne _ _ _ (show (38 : Nat) ≠ 36 by decide), mA_ne _ _ _ (show (37 : Nat) ≠ 36 by decide)]
      by_cases q : y = x
      · subst q
        rw [if_pos rfl, if_pos rfl, if_pos rfl]
        exact ⟨rfl, rfl, rfl⟩
      · rw [if_neg q, if_neg q, if_neg q]
        exact hy y (by omega)
    obtain ⟨τ', g1, g2, g3⟩ := ih (x + 1) n (mA (mA (mA τ 36 x (nI (s.pl x))) 37 x (bI (s.on x))) 38 x (nI (s.fu x))) (by omega) (by omega) eT (hN.fr fr (by decide)) hy'
    refine ⟨τ', ?_, g2, fr.tr g3⟩
    rw [fm_takesUp_17]
    simp (disch := first | omega | decide) only [n0, n1, n12, eT, jLe, jLt, jMul, jAdd, x1, x2, x3, c1, c2, e1, e2, e3, mA_ne, bI_z, ne_eq, Nat.not_lt_zero, false_or, if_false]
    exact g1
theorem fm_takesUp_s {τ : mS} {w : Wd} {s : St} {k : Nat} (hw : Wd.ok w) (hW : MWd τ w) (hk : k < 80) (hN : MNd τ w.T k s) : ∃ τ', fm_takesUp τ (nI k) = some τ' ∧ MSt τ' w.T s ∧ τ'.2.1 39 = 0 ∧ mFr [35, 36, 37, 38, 39] τ τ' := by
  have hT : w.T ≤ 12 := hw.1.2.2.1
  have c1 : (nI k).toNatClampNeg = k := jCl (by omega)
  have x1 : ¬ 80 ≤ k := by omega
  have fr : mFr [35, 36, 37, 38, 39] τ (mJ (mI τ 35 (nI s.rm)) 39 0) := (mFr.I (by decide)).tr (mFr.J (by decide))
  obtain ⟨τ', g1, g2, g3⟩ := fm_takesUp_l (s := s) (k := k) hT hk w.T 0 3000 (mJ (mI τ 35 (nI s.rm)) 39 0) (by omega) (by omega) hW.1.2.2.1 (hN.fr fr (by decide)) (fun y h => by omega)
  refine ⟨τ', ?_, ⟨?_, g2⟩, ?_, fr.tr (g3.wk (by decide))⟩
  · unfold fm_takesUp
    simp (disch := omega) only [n0, c1, x1, hN.1, jLt, Nat.not_lt_zero, false_or, if_false]
    exact g1
  · rw [(g3 35 (by decide)).1]; rfl
  · rw [(g3 39 (by decide)).2.1]; rfl
