/-! Burning, the class's side. -/
theorem fc_burn_l {w : Wd} {s : St} {i : Nat} (hw : Wd.ok w) (hs : St.ok w s) : ∀ (d x n : Nat) (σ : cS), x + d = w.T → d < n → CWd σ w → cLbs σ → RSt σ i (sBurnTo w s x) → ∃ σ', fc_X3_burn_2 n σ (some i) (nI x) = some σ' ∧ RSt σ' i (sBurn w s) ∧ cFr (cSc i) σ σ' ∧ cn σ' = cn σ := by
  have hT : w.T ≤ 12 := hw.1.2.2.1
  intro d
  induction d with
  | zero =>
    intro x n σ hx hn hW hl hm
    obtain ⟨n, rfl⟩ : ∃ k, n = k + 1 := ⟨n - 1, by omega⟩
    have eT := hW.1.2.2.1
    have x1 : w.T ≤ x := by omega
    refine ⟨σ, ?_, ?_, cFr.rf _ _, rfl⟩
    · rw [fc_X3_burn_2]
      simp (disch := omega) only [eT, jLe, x1, if_true]
    · have : x = w.T := by omega
      subst this
      exact hm
  | succ d ih =>
    intro x n σ hx hn hW hl hm
    obtain ⟨n, rfl⟩ : ∃ k, n = k + 1 := ⟨n - 1, by omega⟩
    have eT := hW.1.2.2.1
    have x1 : ¬ w.T ≤ x := by omega
    have x2 : ¬ 12 ≤ x := by omega
    have c1 : (nI x).toNatClampNeg = x := jCl (by omega)
    obtain ⟨d1, d2, d3, d4⟩ := hm.cons
    obtain ⟨-, -, b3, b4, b5⟩ := hm.2.1
    obtain ⟨-, -, e13⟩ := hW.2.2.2.2.2.1 x (by omega)
    obtain ⟨e36, e38, e37⟩ := hm.2.2.2 x (by omega)
    rw [(sBurnTo_at w s x).1] at e38
    rw [(sBurnTo_at w s x).2] at e37
    obtain ⟨-, -, hf, -, ho⟩ := hs.2.1 x (by omega)
    have hk : w.kind x < 1000 := by obtain ⟨-, -, -, -, h, -⟩ := hw.2.2.2.2.2.1 x (by omega); omega
    rw [fc_X3_burn_2]
    unfold fc_X3_burn_65 fc_X3_burn_66
    rw [d1, Option.bind_some, d4, Option.bind_some, d3, Option.bind_some]
    by_cases q : sBrn w s x = true
    · have q' := q
      unfold sBrn at q'
      simp only [Bool.and_eq_true, decide_eq_true_eq] at q'
      have hf0 : 1 ≤ s.fu x := by
        rcases ho q'.2 with h | h
        · omega
        · exact h.2
      have hm1 := hm.uFu x (s.fu x - 1)
      obtain ⟨f1, f2, f3, f4⟩ := hm1.cons
      have e1 : nI (s.fu x) - nI 1 = nI (s.fu x - 1) := jSub hf0
      simp (disch := omega) only [n0, n1, n108, eT, jLe, jEq, jLt, x1, x2, c1, e13, e37, e38, e1, b4, b5, bI_0, q'.1, q'.2, Nat.not_lt_zero, false_or, if_false, if_true, jAdd, jz0, jz1, Bool.true_eq_false]
      rw [f3, Option.bind_some, f4]
      simp (disch := omega) only [Option.bind_some, c1, jLt, Nat.not_lt_zero, false_or, uI_at, if_true, jLe0, show cln (uI σ 12 (14 + 2 * i) x (nI (s.fu x - 1))) 12 (14 + 2 * i) = 12 from b4, show cln (uI σ 12 (14 + 2 * i) x (nI (s.fu x - 1))) 13 (1 + i) = 12 from b5, x2, if_false]
      have fin : ∀ b : Bool, b = decide (1 < s.fu x) → ∃ σ', fc_X3_burn_2 n (uI (uI σ 12 (14 + 2 * i) x (nI (s.fu x - 1))) 13 (1 + i) x (bI b)) (some i) (nI (x + 1)) = some σ' ∧ RSt σ' i (sBurn w s) ∧ cFr (cSc i) σ σ' ∧ cn σ' = cn σ := fun b hb => by
        have fr : cFr (cSc i) σ (uI (uI σ 12 (14 + 2 * i) x (nI (s.fu x - 1))) 13 (1 + i) x (bI b)) := (cFr.I (by simp [cSc])).tr (cFr.I (by simp [cSc]))
        have hm2 := hm1.uOn x b
        rw [hb, ← sBurnTo_step w s q, ← hb] at hm2
        obtain ⟨σ', g1, g2, g3, g4⟩ := ih (x + 1) n _ (by omega) (by omega) (hW.fr hl fr (cSc_W i)) (hl.fr fr) hm2
        exact ⟨σ', g1, g2, fr.tr g3, g4⟩
      by_cases q2 : s.fu x - 1 = 0
      · rw [if_pos q2]
        exact fin false (by symm; simp; omega)
      · rw [if_neg q2]
        exact fin true (by symm; simp; omega)
    · have nxt : ∃ σ', fc_X3_burn_2 n σ (some i) (nI (x + 1)) = some σ' ∧ RSt σ' i (sBurn w s) ∧ cFr (cSc i) σ σ' ∧ cn σ' = cn σ := ih (x + 1) n σ (by omega) (by omega) hW hl (by rw [sBurnTo_off w s q]; exact hm)
      simp (disch := omega) only [n0, n1, n108, eT, jLe, jEq, jLt, x1, x2, c1, e13, e37, b4, b5, bI_0, Nat.not_lt_zero, false_or, if_false, jAdd]
      by_cases q1 : w.kind x = 108
      · have q2 : s.on x = false := by
          unfold sBrn at q
          simpa [q1] using q
        simp only [q1, q2, if_true]
        exact nxt
      · simp only [q1, if_false]
        exact nxt
theorem fc_burn_s {σ : cS} {w : Wd} {s : St} {i : Nat} (hw : Wd.ok w) (hW : CWd σ w) (hl : cLbs σ) (hs : St.ok w s) (hm : RSt σ i s) : ∃ σ', fc_X3_burn σ (some i) = some σ' ∧ RSt σ' i (sBurn w s) ∧ cFr (cSc i) σ σ' ∧ cn σ' = cn σ :=
  fc_burn_l hw hs w.T 0 3000 σ (by omega) (by have := hw.1.2.2.1; omega) hW hl (by rw [sBurnTo_0]; exact hm)
