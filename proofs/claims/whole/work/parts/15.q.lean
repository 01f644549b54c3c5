/-! Goals reached: both sides. -/
def sScore (w : Wd) (s : St) : Nat := sumR 0 w.Gl fun g => if s.pl (w.gth g) = w.grm g then 1 else 0
theorem fm_score_l {τ : mS} {w : Wd} {s : St} {k : Nat} (hw : Wd.ok w) (hW : MWd τ w) (hs : St.ok w s) (hk : k < 80) (h34 : τ.1 34 = nI k) (hN : MNd τ w.T k s) : ∀ (d x a n : Nat), x + d = w.Gl → d < n → fm_score_13 n τ (nI a) (nI x) = some (nI (a + sumR x d fun g => if s.pl (w.gth g) = w.grm g then 1 else 0), τ) := by
  have hT : w.T ≤ 12 := hw.1.2.2.1
  have hR := hw.1.2.1
  have hG := hw.1.2.2.2
  have eG := hW.1.2.2.2
  intro d
  induction d with
  | zero =>
    intro x a n hx hn
    obtain ⟨n, rfl⟩ : ∃ k, n = k + 1 := ⟨n - 1, by omega⟩
    have x1 : w.Gl ≤ x := by omega
    rw [fm_score_13]
    simp (disch := omega) only [eG, jLe, x1, if_true, sumR_0, Nat.add_zero]
  | succ d ih =>
    intro x a n hx hn
    obtain ⟨n, rfl⟩ : ∃ k, n = k + 1 := ⟨n - 1, by omega⟩
    have x1 : ¬ w.Gl ≤ x := by omega
    have x2 : ¬ 6 ≤ x := by omega
    have c1 : (nI x).toNatClampNeg = x := jCl (by omega)
    obtain ⟨e17, e18⟩ := hW.2.2.2.2.2.2 x (by omega)
    obtain ⟨g1, g2⟩ := hw.2.2.2.2.2.2.2.2.2.1 x (by omega)
    obtain ⟨h1, -⟩ := hs.2.1 _ g1
    have hp : s.pl (w.gth x) < 1000 := by omega
    have x3 : ¬ 960 ≤ 12 * k + w.gth x := by omega
    have c2 : (nI (12 * k + w.gth x)).toNatClampNeg = 12 * k + w.gth x := jCl (by omega)
    obtain ⟨e22, -, -⟩ := hN.2 _ g1
    rw [fm_score_13, sumR_s]
    unfold fm_score_55
    simp (disch := omega) only [n0, n1, n12, eG, h34, jMul, jLe, jEq, jLt, x1, x2, x3, c1, c2, e17, e18, e22, Nat.not_lt_zero, false_or, if_false, jAdd]
    rw [ih (x + 1) (a + 0) n (by omega) (by omega), ih (x + 1) (a + 1) n (by omega) (by omega)]
    by_cases q : s.pl (w.gth x) = w.grm x <;> simp [q, Nat.add_assoc]
theorem fc_goals_l {σ : cS} {w : Wd} {s : St} {i : Nat} (hw : Wd.ok w) (hW : CWd σ w) (hs : St.ok w s) (hm : RSt σ i s) : ∀ (d x a n : Nat), x + d = w.Gl → d < n → fc_X3_goalsReached_4 n σ (some i) (nI a) (nI x) = some (nI (a + sumR x d fun g => if s.pl (w.gth g) = w.grm g then 1 else 0), σ) := by
  have hT : w.T ≤ 12 := hw.1.2.2.1
  have hR := hw.1.2.1
  have hG := hw.1.2.2.2
  have eG := hW.1.2.2.2
  obtain ⟨d1, d2, d3, d4⟩ := hm.cons
  have b3 : cln σ 12 (13 + 2 * i) = 12 := hm.2.1.2.2.1
  intro d
  induction d with
  | zero =>
    intro x a n hx hn
    obtain ⟨n, rfl⟩ : ∃ k, n = k + 1 := ⟨n - 1, by omega⟩
    have x1 : w.Gl ≤ x := by omega
    rw [fc_X3_goalsReached_4]
    simp (disch := omega) only [eG, jLe, x1, if_true, sumR_0, Nat.add_zero]
  | succ d ih =>
    intro x a n hx hn
    obtain ⟨n, rfl⟩ : ∃ k, n = k + 1 := ⟨n - 1, by omega⟩
    have x1 : ¬ w.Gl ≤ x := by omega
    have x2 : ¬ 6 ≤ x := by omega
    have c1 : (nI x).toNatClampNeg = x := jCl (by omega)
    obtain ⟨e17, e18⟩ := hW.2.2.2.2.2.2.2 x (by omega)
    obtain ⟨g1, g2⟩ := hw.2.2.2.2.2.2.2.2.2.1 x (by omega)
    obtain ⟨h1, -⟩ := hs.2.1 _ g1
    have hp : s.pl (w.gth x) < 1000 := by omega
    have x3 : ¬ 12 ≤ w.gth x := by omega
    have c2 : (nI (w.gth x)).toNatClampNeg = w.gth x := jCl (by omega)
    obtain ⟨e22, -, -⟩ := hm.2.2.2 (w.gth x) (by omega)
    rw [fc_X3_goalsReached_4, sumR_s, d1, Option.bind_some, d2, Option.bind_some]
    unfold fc_X3_goalsReached_44
    simp (disch := omega) only [n0, n1, eG, b3, jLe, jEq, jLt, x1, x2, x3, c1, c2, e17, e18, e22, Nat.not_lt_zero, false_or, if_false, jAdd]
    rw [ih (x + 1) a n (by omega) (by omega), ih (x + 1) (a + 1) n (by omega) (by omega)]
    by_cases q : s.pl (w.gth x) = w.grm x <;> simp [q, Nat.add_assoc]
theorem fc_goals_s {σ : cS} {w : Wd} {s : St} {i : Nat} (hw : Wd.ok w) (hW : CWd σ w) (hs : St.ok w s) (hm : RSt σ i s) : fc_X3_goalsReached σ (some i) = some (nI (sScore w s), σ) := by
  have h := fc_goals_l hw hW hs hm w.Gl 0 0 3000 (by omega) (by have := hw.1.2.2.2; omega)
  rw [Nat.zero_add] at h
  exact h
