/-! Where a thing is: both sides. -/
theorem fm_isHeld_s {τ : mS} {w : Wd} {s : St} {x : Nat} (hw : Wd.ok w) (hs : St.ok w s) (hm : MSt τ w.T s) (hx : x < w.T) : fm_isHeld τ (nI x) = some (bI (sHeld s x), τ) := by
  have hT : w.T ≤ 12 := hw.1.2.2.1
  obtain ⟨h1, -, -, -, -⟩ := hs.2.1 x hx
  obtain ⟨e1, -, -⟩ := hm.2 x hx
  have hR := hw.1.2.1
  have hp : s.pl x < 1000 := by omega
  have i1 : ¬ (nI x < 0 ∨ 12 ≤ (nI x).toNatClampNeg) := nI_in (by omega) (by omega)
  have c1 : (nI x).toNatClampNeg = x := jCl (by omega)
  unfold fm_isHeld fm_isHeld_61 fm_isHeld_65 fm_isHeld_66 sHeld
  rw [if_neg i1, if_neg i1, if_neg i1, if_neg i1, c1, e1]
  by_cases q : s.pl x < 200
  · by_cases q2 : s.pl x = 100
    · rw [if_pos (by rw [q2]; rfl)]; simp [q2, bI]; rfl
    · rw [if_neg (by rw [n100, jEq (by omega) (by omega)]; exact q2), if_pos (by rw [n200, jLt (by omega) (by omega)]; exact q)]
      have q4 : ¬ 200 ≤ s.pl x := by omega
      simp [q2, q4, bI]; rfl
  · have hb : s.pl x - 200 < w.T := by omega
    obtain ⟨f1, -, f3⟩ := hm.2 _ hb
    have hp2 : s.pl (s.pl x - 200) < 1000 := by
      obtain ⟨g1, -⟩ := hs.2.1 _ hb
      omega
    have q2 : ¬ s.pl x = 100 := by omega
    have q4 : 200 ≤ s.pl x := by omega
    have i2 : ¬ (nI (s.pl x - 200) < 0 ∨ 12 ≤ (nI (s.pl x - 200)).toNatClampNeg) := nI_in (by omega) (by omega)
    have c2 : (nI (s.pl x - 200)).toNatClampNeg = s.pl x - 200 := jCl (by omega)
    rw [if_neg (by rw [n100, jEq (by omega) (by omega)]; exact q2), if_neg (by rw [n200, jLt (by omega) (by omega)]; exact q), show nI (s.pl x) - 200 = nI (s.pl x - 200) from jSub q4, if_neg i2, if_neg i2, c2, f1, f3]
    by_cases q3 : s.pl (s.pl x - 200) = 100
    · rw [if_pos (by rw [q3]; rfl)]
      cases q5 : s.on (s.pl x - 200) <;> simp [q2, q3, q4, bI] <;> rfl
    · rw [if_neg (by rw [n100, jEq (by omega) (by omega)]; exact q3)]
      simp [q2, q3, q4, bI]; rfl
theorem jNn {a b : Nat} (h : b ≤ a) (ha : a < 100000) : (nI a - nI b < nI 0) ↔ False := by
  rw [jSub h, jLt (by omega) (by omega), iff_false]; omega
theorem jNg {a b : Nat} (h : a < b) (hb : b < 100000) : (nI a - nI b < nI 0) ↔ True := iff_of_true (jNeg h hb) trivial
theorem fm_isAtHand_s {τ : mS} {w : Wd} {s : St} {x : Nat} (hw : Wd.ok w) (hs : St.ok w s) (hm : MSt τ w.T s) (hx : x < w.T) : fm_isAtHand τ (nI x) = some (bI (sHand s x), τ) := by
  have hT : w.T ≤ 12 := hw.1.2.2.1
  obtain ⟨h1, hk, -, -, -⟩ := hs.2.1 x hx
  obtain ⟨e1, -, -⟩ := hm.2 x hx
  have e0 := hm.1
  have hR := hw.1.2.1
  have hr := hs.1
  have hp : s.pl x < 1000 := by omega
  have c1 : (nI x).toNatClampNeg = x := jCl (by omega)
  have x1 : ¬ 12 ≤ x := by omega
  unfold fm_isAtHand fm_isAtHand_26 fm_isAtHand_41 fm_isAtHand_65 fm_isAtHand_69 fm_isAtHand_70 sHand
  simp (disch := omega) only [n0, n1, n100, n200, c1, x1, e1, e0, jEq, jLt, Nat.not_lt_zero, false_or, if_false, jz0, jz1, if_true]
  by_cases q : s.pl x < 200
  · have q4 : ¬ 200 ≤ s.pl x := by omega
    by_cases q2 : s.pl x = 100
    · simp [q2, bI]
    · by_cases q3 : s.pl x = s.rm <;> simp_all [bI] <;> (intro h; omega)
  · have hb : s.pl x - 200 < w.T := by omega
    obtain ⟨f1, -, f3⟩ := hm.2 _ hb
    have hp2 : s.pl (s.pl x - 200) < 1000 := by
      obtain ⟨g1, -⟩ := hs.2.1 _ hb
      omega
    have q4 : 200 ≤ s.pl x := by omega
    have c2 : (nI (s.pl x - 200)).toNatClampNeg = s.pl x - 200 := jCl (by omega)
    have x2 : ¬ 12 ≤ s.pl x - 200 := by omega
    have x3 : ¬ s.pl x - 200 = x := by
      intro e
      rcases h1 with h | h | ⟨-, -, h, h'⟩
      · omega
      · omega
      · rw [e] at h; exact h' h
    simp (disch := omega) only [jSub, c2, x2, x3, f1, f3, jEq, jLt, bI_0, q, q4, Nat.not_lt_zero, false_or, if_false, if_true]
    by_cases q3 : s.pl (s.pl x - 200) = 100 <;> by_cases q6 : s.pl (s.pl x - 200) = s.rm <;> cases q5 : s.on (s.pl x - 200) <;> simp_all [bI]
def sOpen (s : St) (x : Nat) : Option Nat := if 200 ≤ s.pl x then (if s.on (s.pl x - 200) then some (s.pl x - 200) else none) else none
theorem fc_openBoxOf_s {σ : cS} {w : Wd} {s : St} {x i : Nat} (hw : Wd.ok w) (hs : St.ok w s) (hT2 : cI σ 2 0 13 = nI w.T) (hm : RSt σ i s) (hx : x < w.T) : fc_X3_openBoxOf σ (some i) (nI x) = some (oI (sOpen s x), σ) := by
  have hT : w.T ≤ 12 := hw.1.2.2.1
  obtain ⟨h1, hk, -, -, -⟩ := hs.2.1 x hx
  obtain ⟨⟨a1, a2, a3, a4⟩, ⟨b1, b2, b3, b4, b5⟩, e0, hm⟩ := hm
  obtain ⟨e1, -, -⟩ := hm x (by omega)
  have hR := hw.1.2.1
  have hr := hs.1
  have hp : s.pl x < 1000 := by omega
  have c1 : (nI x).toNatClampNeg = x := jCl (by omega)
  have x1 : ¬ 12 ≤ x := by omega
  unfold fc_X3_openBoxOf fc_X3_openBoxOf_39 fc_X3_openBoxOf_40 sOpen
  rw [dr_mk a1, Option.bind_some, a2, dr_mk (by omega), Option.bind_some, a4, dr_mk b2]
  simp (disch := omega) only [Option.bind_some, b3, b5, n0, n1, n100, n200, c1, x1, e1, hT2, jEq, jLt, jNn, jNg, Nat.not_lt_zero, false_or, if_false, if_true]
  by_cases q : s.pl x < 200
  · have q4 : ¬ 200 ≤ s.pl x := by omega
    simp (disch := omega) only [jNg, if_true, if_neg q4, oI]
  · have hb : s.pl x - 200 < w.T := by omega
    obtain ⟨f1, -, f3⟩ := hm _ (Nat.lt_of_lt_of_le hb hT)
    have q4 : 200 ≤ s.pl x := by omega
    have c2 : (nI (s.pl x - 200)).toNatClampNeg = s.pl x - 200 := jCl (by omega)
    have x2 : ¬ 12 ≤ s.pl x - 200 := by omega
    have x3 : ¬ w.T ≤ s.pl x - 200 := by omega
    simp (disch := omega) only [jSub, jLe, c2, x2, x3, f1, f3, jEq, jLt, bI_0, q, q4, Nat.not_lt_zero, false_or, if_false, if_true]
    cases q5 : s.on (s.pl x - 200) <;> simp [oI]
theorem RSt.cons {σ : cS} {s : St} {i : Nat} (h : RSt σ i s) : dr σ 6 (some i) = some i ∧ dr σ 12 (cR σ 6 i 1) = some (13 + 2 * i) ∧ dr σ 12 (cR σ 6 i 2) = some (14 + 2 * i) ∧ dr σ 13 (cR σ 6 i 3) = some (1 + i) := by
  obtain ⟨⟨a1, a2, a3, a4⟩, ⟨b1, b2, -⟩, -⟩ := h
  refine ⟨dr_mk a1, ?_, ?_, ?_⟩
  · rw [a2]; exact dr_mk (by omega)
  · rw [a3]; exact dr_mk b1
  · rw [a4]; exact dr_mk b2
/-- where the thing to look at is: its open box, or itself -/
theorem sOpen_T {w : Wd} {s : St} {x : Nat} (hw : Wd.ok w) (hs : St.ok w s) (hx : x < w.T) {b : Nat} (h : sOpen s x = some b) : b < w.T := by
  obtain ⟨h1, -⟩ := hs.2.1 x hx
  unfold sOpen at h
  split at h
  · split at h
    · have h := Option.some.inj h
      have hR := hw.1.2.1
      omega
    · cases h
  · cases h
theorem fc_isHeld_s {σ : cS} {w : Wd} {s : St} {x i : Nat} (hw : Wd.ok w) (hs : St.ok w s) (hT2 : cI σ 2 0 13 = nI w.T) (hm : RSt σ i s) (hx : x < w.T) : fc_X3_isHeld σ (some i) (nI x) = some (bI (sHeld s x), σ) := by
  have hT : w.T ≤ 12 := hw.1.2.2.1
  have hR := hw.1.2.1
  obtain ⟨d1, d2, d3, d4⟩ := hm.cons
  have b3 : cln σ 12 (13 + 2 * i) = 12 := hm.2.1.2.2.1
  have key : ∀ y, y < w.T → fc_X3_isHeld_21 σ (nI y) (cR σ 6 i 1) = some (bI (s.pl y == 100), σ) := fun y hy => by
    obtain ⟨g1, -⟩ := hs.2.1 y hy
    obtain ⟨e1, -, -⟩ := hm.2.2.2 y (by omega)
    have c1 : (nI y).toNatClampNeg = y := jCl (by omega)
    have x1 : ¬ 12 ≤ y := by omega
    unfold fc_X3_isHeld_21 fc_X3_isHeld_32
    rw [d2, Option.bind_some]
    simp (disch := omega) only [b3, n0, n1, n100, c1, x1, e1, jEq, jLt, jz0, jz1, Nat.not_lt_zero, false_or, if_false, if_true]
    by_cases q : s.pl y = 100 <;> simp [q, bI]
  unfold fc_X3_isHeld
  rw [fc_openBoxOf_s hw hs hT2 hm hx, Option.bind_some, d1, Option.bind_some]
  cases hO : sOpen s x with
  | none =>
    refine (if_pos (show (oI none, σ).1 = -1 from rfl)).trans ?_
    refine (key x hx).trans ?_
    unfold sOpen at hO
    unfold sHeld
    split at hO
    · split at hO
      · cases hO
      · rename_i h1 h2
        simp [h1, h2]
    · rename_i h1
      simp [h1]
  | some b =>
    have hb := sOpen_T hw hs hx hO
    refine (if_neg (show ¬ nI b = -1 from (jM1 (by omega)).mp)).trans ?_
    refine (key b hb).trans ?_
    unfold sOpen at hO
    unfold sHeld
    split at hO
    · split at hO
      · have hO := Option.some.inj hO
        subst hO
        rename_i h1 h2
        have : ¬ s.pl x = 100 := by omega
        rw [beq_false_of_ne this]
        simp [h1, h2]
      · cases hO
    · cases hO
theorem fc_isAtHand_s {σ : cS} {w : Wd} {s : St} {x i : Nat} (hw : Wd.ok w) (hs : St.ok w s) (hT2 : cI σ 2 0 13 = nI w.T) (hm : RSt σ i s) (hx : x < w.T) : fc_X3_isAtHand σ (some i) (nI x) = some (bI (sHand s x), σ) := by
  have hT : w.T ≤ 12 := hw.1.2.2.1
  have hR := hw.1.2.1
  obtain ⟨d1, d2, d3, d4⟩ := hm.cons
  have b3 : cln σ 12 (13 + 2 * i) = 12 := hm.2.1.2.2.1
  have e0 := hm.2.2.1
  have hr := hs.1
  have key : ∀ y, y < w.T → fc_X3_isAtHand_21 σ (some i) (nI y) (cR σ 6 i 1) = some (bI (s.pl y == 100 || s.pl y == s.rm), σ) := fun y hy => by
    obtain ⟨g1, -⟩ := hs.2.1 y hy
    obtain ⟨e1, -, -⟩ := hm.2.2.2 y (by omega)
    have c1 : (nI y).toNatClampNeg = y := jCl (by omega)
    have x1 : ¬ 12 ≤ y := by omega
    unfold fc_X3_isAtHand_21 fc_X3_isAtHand_40 fc_X3_isAtHand_45
    rw [d2, Option.bind_some, d1, Option.bind_some]
    simp (disch := omega) only [b3, n0, n1, n100, c1, x1, e1, e0, jEq, jLt, jz0, jz1, Nat.not_lt_zero, false_or, if_false, if_true]
    by_cases q : s.pl y = 100 <;> by_cases q2 : s.pl y = s.rm <;> simp [q, q2, bI] <;> simp_all
  unfold fc_X3_isAtHand
  rw [fc_openBoxOf_s hw hs hT2 hm hx, Option.bind_some, d1, Option.bind_some]
  cases hO : sOpen s x with
  | none =>
    refine (if_pos (show (oI none, σ).1 = -1 from rfl)).trans ?_
    refine (key x hx).trans ?_
    obtain ⟨h1, -⟩ := hs.2.1 x hx
    unfold sOpen at hO
    unfold sHand
    split at hO
    · split at hO
      · cases hO
      · rename_i h1 h2
        have h3 : ¬ s.pl x = 100 := by omega
        have h4 : ¬ s.pl x = s.rm := by omega
        rw [beq_false_of_ne h3, beq_false_of_ne h4]
        simp [h1, h2]
    · rename_i h1
      simp [h1]
  | some b =>
    have hb := sOpen_T hw hs hx hO
    refine (if_neg (show ¬ nI b = -1 from (jM1 (by omega)).mp)).trans ?_
    refine (key b hb).trans ?_
    unfold sOpen at hO
    unfold sHand
    split at hO
    · split at hO
      · have hO := Option.some.inj hO
        subst hO
        rename_i h1 h2
        simp [h1, h2]
      · cases hO
    · cases hO
