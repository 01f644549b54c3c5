/-! Where a thing is: both sides. -/
theorem fm_isHeld_s {τ : mS} {w : Wd} {s : St} {x : Nat} (hw : Wd.ok w) (hs : St.ok w s) (hm : MSt τ w.T s) (hx : x < w.T) : fm_isHeld τ (nI x) = some (bI (sHeld s x), τ) := by
  have hT : w.T ≤ 12 := hw.1.2.2.1
  obtain ⟨h1, -, -, -, -⟩ := hs.2.1 x hx
  obtain ⟨e1, -, -⟩ := hm.2 x hx
  have hR := hw.1.2.1
  have hp : s.pl x < 1000 := by omega
  have i1 : ¬ (nI x < 0 ∨ 12 ≤ (nI x).toNatClampNeg) := nI_in (by omega) (by omega)
  have c1 : (nI x).toNatClampNeg = x := jCl (by omega)
  unfold fm_isHeld fm_isHeld_61 fm_isHeld_65 fm_isHeld_66 sHeld
  rw [if_neg i1, if_neg i1, if_neg i1, if_neg i1, c1, e1]
  by_cases q : s.pl x < 200
  · by_cases q2 : s.pl x = 100
    · rw [if_pos (by rw [q2]; rfl)]; simp [q2, bI]; rfl
    · rw [if_neg (by rw [n100, jEq (by omega) (by omega)]; exact q2), if_pos (by rw [n200, jLt (by omega) (by omega)]; exact q)]
      have q4 : ¬ 200 ≤ s.pl x := by omega
      simp [q2, q4, bI]; rfl
  · have hb : s.pl x - 200 < w.T := by omega
    obtain ⟨f1, -, f3⟩ := hm.2 _ hb
    have hp2 : s.pl (s.pl x - 200) < 1000 := by
      obtain ⟨g1, -⟩ := hs.2.1 _ hb
      omega
    have q2 : ¬ s.pl x = 100 := by omega
    have q4 : 200 ≤ s.pl x := by omega
    have i2 : ¬ (nI (s.pl x - 200) < 0 ∨ 12 ≤ (nI (s.pl x - 200)).toNatClampNeg) := nI_in (by omega) (by omega)
    have c2 : (nI (s.pl x - 200)).toNatClampNeg = s.pl x - 200 := jCl (by omega)
    rw [if_neg (by rw [n100, jEq (by omega) (by omega)]; exact q2), if_neg (by rw [n200, jLt (by omega) (by omega)]; exact q), show nI (s.pl x) - 200 = nI (s.pl x - 200) from jSub q4, if_neg i2, if_neg i2, c2, f1, f3]
    by_cases q3 : s.pl (s.pl x - 200) = 100
    · rw [if_pos (by rw [q3]; rfl)]
      cases q5 : s.on (s.pl x - 200) <;> simp [q2, q3, q4, bI] <;> rfl
    · rw [if_neg (by rw [n100, jEq (by omega) (by omega)]; exact q3)]
      simp [q2, q3, q4, bI]; rfl
