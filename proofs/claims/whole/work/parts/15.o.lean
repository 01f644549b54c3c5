/-! The class's states: alike, and at the start. -/
theorem fc_isLike_l {σ : cS} {i j : Nat} {s : St} (hi : RSt σ i s) (hj : RSt σ j s) : ∀ (d x n : Nat), x + d = 12 → d < n → fc_X6_isLike_2 n σ (some i) (some j) (nI x) = some (nI 1, σ) := by
  obtain ⟨a1, a2, a3, a4⟩ := hi.cons
  obtain ⟨b1, b2, b3, b4⟩ := hj.cons
  obtain ⟨-, -, l1, l2, l3⟩ := hi.2.1
  obtain ⟨-, -, m1, m2, m3⟩ := hj.2.1
  intro d
  induction d with
  | zero =>
    intro x n hx hn
    obtain ⟨n, rfl⟩ : ∃ k, n = k + 1 := ⟨n - 1, by omega⟩
    have x1 : 12 ≤ x := by omega
    rw [fc_X6_isLike_2]
    unfold fc_X6_isLike_77
    rw [if_pos (show (12 : Int32) ≤ nI x by rw [n12, jLe (by omega) (by omega)]; exact x1), a1, Option.bind_some, b1, Option.bind_some, if_pos (hi.2.2.1.trans hj.2.2.1.symm)]
    rfl
  | succ d ih =>
    intro x n hx hn
    obtain ⟨n, rfl⟩ : ∃ k, n = k + 1 := ⟨n - 1, by omega⟩
    have x1 : ¬ 12 ≤ x := by omega
    have c1 : (nI x).toNatClampNeg = x := jCl (by omega)
    obtain ⟨u1, u2, u3⟩ := hi.2.2.2 x (by omega)
    obtain ⟨v1, v2, v3⟩ := hj.2.2.2 x (by omega)
    rw [fc_X6_isLike_2]
    rw [if_neg (show ¬ (12 : Int32) ≤ nI x by rw [n12, jLe (by omega) (by omega)]; exact x1), a1, Option.bind_some, a2, Option.bind_some, b1, Option.bind_some, b2, Option.bind_some]
    simp (disch := omega) only [Option.bind_some, n0, n1, c1, x1, l1, m1, u1, v1, a3, b3, l2, m2, u2, v2, a4, b4, l3, m3, u3, v3, jLt, Nat.not_lt_zero, false_or, if_false, if_true, jAdd]
    exact ih (x + 1) n (by omega) (by omega)
/-- two States that hold the same are alike -/
theorem fc_isLike_s {σ : cS} {i j : Nat} {s : St} (hi : RSt σ i s) (hj : RSt σ j s) : fc_X6_isLike σ (some i) (some j) = some (nI 1, σ) :=
  fc_isLike_l hi hj 12 0 3000 (by omega) (by omega)
/-- all at the start of play -/
def sStart (w : Wd) (r : Nat) : St := (r, w.lies, w.fu0, fun _ => false)
theorem sStart_ok {w : Wd} {r : Nat} (hw : Wd.ok w) (hr : r < w.R) : St.ok w (sStart w r) := by
  have hR := hw.1.2.1
  refine ⟨hr, fun x hx => ?_, fun x hx => ?_⟩
  · obtain ⟨h1, h2, h3, h4, h5, h6, h7⟩ := hw.2.2.2.2.2.1 x hx
    refine ⟨Or.inl h2, fun _ => ?_, h6, h7, fun h => by cases h⟩
    show w.lies x < 200
    omega
  · obtain ⟨h1, h2, -⟩ := hw.2.2.2.2.2.2.2.1 x hx
    exact ⟨h1, h2, rfl⟩
theorem fc_setUp_l {w : Wd} {i r : Nat} : ∀ (d x n : Nat) (σ : cS) (s0 : St), x + d = 12 → d < n → CWd σ w → cLbs σ → RSt σ i s0 → s0.rm = r → (∀ y, y < x → s0.pl y = w.lies y ∧ s0.fu y = w.fu0 y ∧ s0.on y = false) → ∃ σ', fc_X3_setUp_7 n σ (some i) (nI x) = some σ' ∧ RSt σ' i (sStart w r) ∧ cFr (cSc i) σ σ' ∧ cn σ' = cn σ := by
  intro d
  induction d with
  | zero =>
    intro x n σ s0 hx hn hW hl hi h0 hy
    obtain ⟨n, rfl⟩ : ∃ k, n = k + 1 := ⟨n - 1, by omega⟩
    have x1 : 12 ≤ x := by omega
    refine ⟨σ, ?_, hi.to h0 (fun y h => hy y (by omega)), cFr.rf _ _, rfl⟩
    rw [fc_X3_setUp_7]
    simp (disch := omega) only [n12, jLe, x1, if_true]
  | succ d ih =>
    intro x n σ s0 hx hn hW hl hi h0 hy
    obtain ⟨n, rfl⟩ : ∃ k, n = k + 1 := ⟨n - 1, by omega⟩
    have x1 : ¬ 12 ≤ x := by omega
    have c1 : (nI x).toNatClampNeg = x := jCl (by omega)
    have f0 : cFr (cSc i) σ (uI σ 12 (13 + 2 * i) x (nI (w.lies x))) := cFr.I (by simp [cSc])
    have hi1 := hi.uPl x (w.lies x)
    have hW1 := hW.fr hl f0 (cSc_W i)
    have f1 : cFr (cSc i) (uI σ 12 (13 + 2 * i) x (nI (w.lies x))) (uI (uI σ 12 (13 + 2 * i) x (nI (w.lies x))) 12 (14 + 2 * i) x (nI (w.fu0 x))) := cFr.I (by simp [cSc])
    have hi2 := hi1.uFu x (w.fu0 x)
    have f2 : cFr (cSc i) (uI (uI σ 12 (13 + 2 * i) x (nI (w.lies x))) 12 (14 + 2 * i) x (nI (w.fu0 x))) (uI (uI (uI σ 12 (13 + 2 * i) x (nI (w.lies x))) 12 (14 + 2 * i) x (nI (w.fu0 x))) 13 (1 + i) x (bI false)) := cFr.I (by simp [cSc])
    have hi3 := hi2.uOn x false
    have fr := (f0.tr f1).tr f2
    obtain ⟨σ', g1, g2, g3, g4⟩ := ih (x + 1) n _ _ (by omega) (by omega) (hW.fr hl fr (cSc_W i)) (hl.fr fr) hi3 h0 (fun y h => by
      show (if y = x then w.lies x else s0.2.1 y) = _ ∧ (if y = x then w.fu0 x else s0.2.2.1 y) = _ ∧ (if y = x then false else s0.2.2.2 y) = _
      by_cases q : y = x
      · subst q
        rw [if_pos rfl, if_pos rfl, if_pos rfl]
        exact ⟨rfl, rfl, rfl⟩
      · rw [if_neg q, if_neg q, if_neg q]
        exact hy y (by omega))
    refine ⟨σ', ?_, g2, fr.tr g3, g4⟩
    obtain ⟨a1, a2, a3, a4⟩ := hi.cons
    obtain ⟨a11, a12, a13, a14⟩ := hi1.cons
    obtain ⟨a21, a22, a23, a24⟩ := hi2.cons
    obtain ⟨-, -, l1, l2, l3⟩ := hi.2.1
    obtain ⟨-, -, l11, l12, l13⟩ := hi1.2.1
    obtain ⟨-, -, l21, l22, l23⟩ := hi2.2.1
    have v1 := (hW.2.2.2.2.2.2.1 x (by omega)).1
    have v2 := (hW1.2.2.2.2.2.2.1 x (by omega)).2
    rw [fc_X3_setUp_7]
    rw [if_neg (show ¬ (12 : Int32) ≤ nI x by rw [n12, jLe (by omega) (by omega)]; exact x1), a1, Option.bind_some, a2]
    simp (disch := omega) only [Option.bind_some, n0, n1, c1, x1, l1, v1, jLt, Nat.not_lt_zero, false_or, if_false, a13, l12, v2, a24, l23, jz0, jAdd]
    exact g1
theorem fc_setUp_s {σ : cS} {w : Wd} {i r : Nat} {s0 : St} (hW : CWd σ w) (hl : cLbs σ) (hi : RSt σ i s0) : ∃ σ', fc_X3_setUp σ (some i) (nI r) = some σ' ∧ RSt σ' i (sStart w r) ∧ cFr (cSc i) σ σ' ∧ cn σ' = cn σ := by
  have f0 : cFr (cSc i) σ (uI σ 6 i 0 (nI r)) := cFr.I (by simp [cSc])
  obtain ⟨σ', g1, g2, g3, g4⟩ := fc_setUp_l (r := r) 12 0 3000 (uI σ 6 i 0 (nI r)) (sRm s0 r) (by omega) (by omega) (hW.fr hl f0 (cSc_W i)) (hl.fr f0) (hi.uRm r) rfl (fun y h => by omega)
  refine ⟨σ', ?_, g2, f0.tr g3, g4⟩
  unfold fc_X3_setUp
  rw [hi.cons.1, Option.bind_some, n0]
  exact g1
