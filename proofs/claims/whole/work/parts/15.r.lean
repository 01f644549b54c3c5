/-! What is taken as another node has it, the class's side. -/
def sPk (w : Wd) (t : St) (li : Bool) : Nat → Nat → Nat → St → Nat × St
  | 0, _, k, s => (k, s)
  | d + 1, x, k, s => if li = true ∧ t.pl x = 100 ∧ s.pl x = s.rm then (match sTake w s x with
    | some s' => sPk w t li d (x + 1) (k + 1) s'
    | none => sPk w t li d (x + 1) k s) else sPk w t li d (x + 1) k s
theorem sTake_ok {w : Wd} {s s' : St} {x : Nat} (hs : St.ok w s) (hx : x < w.T) (h : sTake w s x = some s') : St.ok w s' := by
  unfold sTake at h
  split at h
  · cases h
  · cases h
    exact sPut_ok hs hx (Or.inr (Or.inl rfl)) (by omega)
theorem fc_pickUpAsIn_l {w : Wd} {t : St} {i j : Nat} {li : Bool} (hw : Wd.ok w) (ht : St.ok w t) (hij : i ≠ j) : ∀ (d x k n : Nat) (σ : cS) (s : St), x + d = w.T → d < n → CWd σ w → cLbs σ → St.ok w s → RSt σ i s → RSt σ j t → ∃ σ', fc_X3_pickUpAsIn_12 n σ (some i) (some j) (nI k) (bI li) (nI x) = some (nI (sPk w t li d x k s).1, σ') ∧ RSt σ' i (sPk w t li d x k s).2 ∧ cFr (cSc i) σ σ' ∧ cn σ' = cn σ := by
  have hT : w.T ≤ 12 := hw.1.2.2.1
  have hR := hw.1.2.1
  intro d
  induction d with
  | zero =>
    intro x k n σ s hx hn hW hl hs hi hj
    obtain ⟨n, rfl⟩ : ∃ k, n = k + 1 := ⟨n - 1, by omega⟩
    have eT := hW.1.2.2.1
    have x1 : w.T ≤ x := by omega
    refine ⟨σ, ?_, hi, cFr.rf _ _, rfl⟩
    rw [fc_X3_pickUpAsIn_12]
    simp (disch := omega) only [eT, jLe, x1, if_true]
    rfl
  | succ d ih =>
    intro x k n σ s hx hn hW hl hs hi hj
    obtain ⟨n, rfl⟩ : ∃ k, n = k + 1 := ⟨n - 1, by omega⟩
    have eT := hW.1.2.2.1
    have x1 : ¬ w.T ≤ x := by omega
    have x2 : ¬ 12 ≤ x := by omega
    have c1 : (nI x).toNatClampNeg = x := jCl (by omega)
    obtain ⟨a1, a2, a3, a4⟩ := hi.cons
    obtain ⟨b1, b2, b3, b4⟩ := hj.cons
    obtain ⟨-, -, l1, l2, l3⟩ := hi.2.1
    obtain ⟨-, -, m1, m2, m3⟩ := hj.2.1
    have u1 := (hi.2.2.2 x (by omega)).1
    have v1 := (hj.2.2.2 x (by omega)).1
    have e0 := hi.2.2.1
    have hr := hs.1
    have hp : s.pl x < 1000 := by obtain ⟨h1, -⟩ := hs.2.1 x (by omega); omega
    have hp2 : t.pl x < 1000 := by obtain ⟨h1, -⟩ := ht.2.1 x (by omega); omega
    have nx : ∃ σ', fc_X3_pickUpAsIn_12 n σ (some i) (some j) (nI k) (bI li) (nI (x + 1)) = some (nI (sPk w t li d (x + 1) k s).1, σ') ∧ RSt σ' i (sPk w t li d (x + 1) k s).2 ∧ cFr (cSc i) σ σ' ∧ cn σ' = cn σ := ih (x + 1) k n σ s (by omega) (by omega) hW hl hs hi hj
    have k59 : fc_X3_pickUpAsIn_59 (fc_X3_pickUpAsIn_12 n) σ (some i) (some j) (nI k) (bI li) (nI x) = fc_X3_pickUpAsIn_12 n σ (some i) (some j) (nI k) (bI li) (nI (x + 1)) := by
      unfold fc_X3_pickUpAsIn_59 fc_X3_pickUpAsIn_60 fc_X3_pickUpAsIn_80
      rw [if_pos rfl, n1, jAdd]
    rw [fc_X3_pickUpAsIn_12, k59]
    simp (disch := omega) only [a1, a2, b1, b2, Option.bind_some, n0, n100, c1, x1, x2, eT, l1, m1, u1, v1, e0, bI_0, jLe, jEq, jLt, Nat.not_lt_zero, false_or, if_false]
    rw [sPk]
    by_cases q : li = true ∧ t.pl x = 100 ∧ s.pl x = s.rm
    · rw [if_pos q]
      have q0 : ¬ li = false := by rw [q.1]; decide
      rw [if_neg q0, if_pos q.2.1, if_pos q.2.2]
      obtain ⟨σ', t1, t2, t3, t4⟩ := fc_pickUp_s hw hW hl hs hi (show x < w.T by omega)
      unfold fc_X3_pickUpAsIn_60 fc_X3_pickUpAsIn_80
      rw [if_neg (show ¬ (1 : Int32) = 0 by decide), t1, Option.bind_some]
      cases hr2 : sTake w s x with
      | none =>
        rw [hr2] at t2
        obtain ⟨σ2, g1, g2, g3, g4⟩ := ih (x + 1) k n σ' s (by omega) (by omega) (hW.fr hl t3 (cSc_W i)) (hl.fr t3) hs t2 (hj.fr t3 (cSc_ne hij))
        refine ⟨σ2, ?_, g2, t3.tr g3, g4.trans t4⟩
        rw [← g1, n1, jAdd]
        rfl
      | some s' =>
        rw [hr2] at t2
        obtain ⟨σ2, g1, g2, g3, g4⟩ := ih (x + 1) (k + 1) n σ' s' (by omega) (by omega) (hW.fr hl t3 (cSc_W i)) (hl.fr t3) (sTake_ok hs (by omega) hr2) t2 (hj.fr t3 (cSc_ne hij))
        refine ⟨σ2, ?_, g2, t3.tr g3, g4.trans t4⟩
        rw [← g1, n1, jAdd, jAdd]
        rfl
    · rw [if_neg q]
      by_cases q0 : li = false
      · rw [if_pos q0]; exact nx
      · rw [if_neg q0]
        by_cases q1 : t.pl x = 100
        · rw [if_pos q1, if_neg (fun h => q ⟨by simpa using q0, q1, h⟩)]; exact nx
        · rw [if_neg q1]; exact nx
theorem fc_pickUpAsIn_s {σ : cS} {w : Wd} {s t : St} {i j : Nat} (hw : Wd.ok w) (hW : CWd σ w) (hl : cLbs σ) (hs : St.ok w s) (ht : St.ok w t) (hij : i ≠ j) (hi : RSt σ i s) (hj : RSt σ j t) : ∃ σ', fc_X3_pickUpAsIn σ (some i) (some j) = some (nI (sPk w t (sLight w s) w.T 0 0 s).1, σ') ∧ RSt σ' i (sPk w t (sLight w s) w.T 0 0 s).2 ∧ cFr (cSc i) σ σ' ∧ cn σ' = cn σ := by
  obtain ⟨σ', g⟩ := fc_pickUpAsIn_l (li := sLight w s) hw ht hij w.T 0 0 3000 σ s (by omega) (by have := hw.1.2.2.1; omega) hW hl hs hi hj
  refine ⟨σ', ?_, g.2⟩
  unfold fc_X3_pickUpAsIn
  rw [fc_hasLight_s hw hW hs hi, Option.bind_some]
  exact g.1
