/-! The thing of a noun, on both sides. -/
def sThing (w : Wd) (k : Nat) : Option Nat := (List.range' 0 w.T).find? fun x => decide (w.noun x = k)
theorem sThing_lt {w : Wd} {k x : Nat} (h : sThing w k = some x) : x < w.T ∧ w.noun x = k := by
  have h1 := List.find?_some h
  have h2 := List.mem_of_find?_eq_some h
  rw [List.mem_range'_1] at h2
  exact ⟨by omega, of_decide_eq_true h1⟩
theorem fm_thingOf_l {τ : mS} {w : Wd} {k : Nat} (hw : Wd.ok w) (hW : MWd τ w) (hk : k < 1000) : ∀ (d x n : Nat) (a : Option Nat), x + d = w.T → d < n → fm_thingOf_4 n τ (nI k) (oI a) (nI x) = some (oI (((List.range' x d).find? fun x => decide (w.noun x = k)).or a), τ) := by
  have hT : w.T ≤ 12 := hw.1.2.2.1
  have eT := hW.1.2.2.1
  intro d
  induction d with
  | zero =>
    intro x n a hx hn
    obtain ⟨n, rfl⟩ : ∃ k, n = k + 1 := ⟨n - 1, by omega⟩
    have x1 : w.T ≤ x := by omega
    rw [fm_thingOf_4]
    simp (disch := omega) only [eT, jLe, x1, if_true]
    rfl
  | succ d ih =>
    intro x n a hx hn
    obtain ⟨n, rfl⟩ : ∃ k, n = k + 1 := ⟨n - 1, by omega⟩
    have x1 : ¬ w.T ≤ x := by omega
    have x2 : ¬ 12 ≤ x := by omega
    have c1 : (nI x).toNatClampNeg = x := jCl (by omega)
    obtain ⟨e10, -⟩ := hW.2.2.2.2.2.1 x (by omega)
    have hn0 : w.noun x < 1000 := by obtain ⟨h, -⟩ := hw.2.2.2.2.2.1 x (by omega); have := hw.1.1; omega
    rw [fm_thingOf_4, List.range'_succ]
    unfold fm_thingOf_27
    simp (disch := omega) only [n0, n1, eT, jLe, jEq, jLt, x1, x2, c1, e10, Nat.not_lt_zero, false_or, if_false, jAdd]
    have i1 := ih (x + 1) n (some x) (by omega) (by omega)
    rw [show oI (some x) = nI x from rfl] at i1
    rw [i1, ih (x + 1) n a (by omega) (by omega)]
    by_cases q : w.noun x = k
    · have hnone : (List.range' (x + 1) d).find? (fun x => decide (w.noun x = k)) = none := by
        rw [List.find?_eq_none]
        intro y hy
        rw [List.mem_range'_1] at hy
        intro hz
        have hz := of_decide_eq_true hz
        have := hw.2.2.2.2.2.2.1 x y (by omega) (by omega) (q.trans hz.symm)
        omega
      rw [if_pos q, hnone, List.find?_cons_of_pos (by simp [q])]
      rfl
    · rw [if_neg q, List.find?_cons_of_neg (by simp [q])]
theorem fm_thingOf_s {τ : mS} {w : Wd} {k : Nat} (hw : Wd.ok w) (hW : MWd τ w) (hk : k < 1000) : fm_thingOf τ (nI k) = some (oI (sThing w k), τ) := by
  have h := fm_thingOf_l hw hW hk w.T 0 3000 none (by omega) (by have := hw.1.2.2.1; omega)
  rw [Option.or_none] at h
  exact h
theorem fc_thingOf_l {σ : cS} {w : Wd} {k : Nat} (hw : Wd.ok w) (hW : CWd σ w) (hk : k < 1000) : ∀ (d x n : Nat), x + d = w.T → d < n → fc_X10_thingOf_2 n σ (nI k) (nI x) = some (oI ((List.range' x d).find? fun x => decide (w.noun x = k)), σ) := by
  have hT : w.T ≤ 12 := hw.1.2.2.1
  have eT := hW.1.2.2.1
  intro d
  induction d with
  | zero =>
    intro x n hx hn
    obtain ⟨n, rfl⟩ : ∃ k, n = k + 1 := ⟨n - 1, by omega⟩
    have x1 : w.T ≤ x := by omega
    rw [fc_X10_thingOf_2]
    simp (disch := omega) only [eT, jLe, x1, if_true]
    rfl
  | succ d ih =>
    intro x n hx hn
    obtain ⟨n, rfl⟩ : ∃ k, n = k + 1 := ⟨n - 1, by omega⟩
    have x1 : ¬ w.T ≤ x := by omega
    have x2 : ¬ 12 ≤ x := by omega
    have c1 : (nI x).toNatClampNeg = x := jCl (by omega)
    obtain ⟨e10, -⟩ := hW.2.2.2.2.2.1 x (by omega)
    have hn0 : w.noun x < 1000 := by obtain ⟨h, -⟩ := hw.2.2.2.2.2.1 x (by omega); have := hw.1.1; omega
    rw [fc_X10_thingOf_2, List.range'_succ]
    simp (disch := omega) only [n0, n1, eT, jLe, jEq, jLt, x1, x2, c1, e10, Nat.not_lt_zero, false_or, if_false, jAdd]
    rw [ih (x + 1) n (by omega) (by omega)]
    by_cases q : w.noun x = k
    · rw [if_pos q, List.find?_cons_of_pos (by simp [q])]
      rfl
    · rw [if_neg q, List.find?_cons_of_neg (by simp [q])]
theorem fc_thingOf_s {σ : cS} {w : Wd} {k : Nat} (hw : Wd.ok w) (hW : CWd σ w) (hk : k < 1000) : fc_X10_thingOf σ (nI k) = some (oI (sThing w k), σ) :=
  fc_thingOf_l hw hW hk w.T 0 3000 (by omega) (by have := hw.1.2.2.1; omega)
