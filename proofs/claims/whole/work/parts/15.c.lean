/-! Light, and what is in reach: both sides. -/
theorem fm_isBrightHere_l {τ : mS} {w : Wd} {s : St} (hw : Wd.ok w) (hW : MWd τ w) (hs : St.ok w s) (hm : MSt τ w.T s) : ∀ (d x : Nat) (a : Bool) (n : Nat), x + d = w.T → d < n → fm_isBrightHere_20 n τ (bI a) (nI x) = some (bI (a || (List.range' x d).any fun x => decide (w.kind x = 108) && s.on x && sHand s x), τ) := by
  have hT : w.T ≤ 12 := hw.1.2.2.1
  have eT := hW.1.2.2.1
  intro d
  induction d with
  | zero =>
    intro x a n hx hn
    obtain ⟨n, rfl⟩ : ∃ k, n = k + 1 := ⟨n - 1, by omega⟩
    have x1 : w.T ≤ x := by omega
    rw [fm_isBrightHere_20]
    simp (disch := omega) only [n1, eT, jLe, x1, bI_z, if_true]
    simp
  | succ d ih =>
    intro x a n hx hn
    obtain ⟨n, rfl⟩ : ∃ k, n = k + 1 := ⟨n - 1, by omega⟩
    have x1 : ¬ w.T ≤ x := by omega
    have x2 : ¬ 12 ≤ x := by omega
    have c1 : (nI x).toNatClampNeg = x := jCl (by omega)
    obtain ⟨-, -, -, e13, -⟩ := hW.2.2.2.2.2.1 x (by omega)
    obtain ⟨-, -, e37⟩ := hm.2 x (by omega)
    have hk : w.kind x < 1000 := by obtain ⟨-, -, -, -, h, -⟩ := hw.2.2.2.2.2.1 x (by omega); omega
    rw [fm_isBrightHere_20, fm_isAtHand_s hw hs hm (show x < w.T by omega)]
    unfold fm_isBrightHere_61 fm_isBrightHere_62
    rw [List.range'_succ, List.any_cons]
    simp (disch := omega) only [n0, n1, n108, eT, jLe, jEq, jLt, x1, x2, c1, e13, e37, bI_0, Nat.not_lt_zero, false_or, if_false, if_true, Option.bind_some, jAdd]
    have o0 : bI a ||| nI 0 = bI a := by cases a <;> rfl
    have o1 : bI a ||| nI 1 = bI true := by cases a <;> rfl
    rw [o0, o1, ih (x + 1) a n (by omega) (by omega), ih (x + 1) true n (by omega) (by omega)]
    by_cases q : w.kind x = 108 <;> cases q2 : s.on x <;> cases q3 : sHand s x <;> simp [q]
theorem fm_isBrightHere_s {τ : mS} {w : Wd} {s : St} (hw : Wd.ok w) (hW : MWd τ w) (hs : St.ok w s) (hm : MSt τ w.T s) : fm_isBrightHere τ = some (bI (sLight w s), τ) := by
  have hT : w.T ≤ 12 := hw.1.2.2.1
  have hR := hw.1.2.1
  have hr := hs.1
  have c1 : (nI s.rm).toNatClampNeg = s.rm := jCl (by omega)
  have x2 : ¬ 12 ≤ s.rm := by omega
  have e5 := hW.2.2.1 s.rm hr
  unfold fm_isBrightHere fm_isBrightHere_17 sLight
  simp (disch := omega) only [n0, n1, hm.1, c1, x2, e5, jLt, bI_0, Nat.not_lt_zero, false_or, if_false]
  have l1 := fm_isBrightHere_l hw hW hs hm w.T 0 true 3000 (by omega) (by omega)
  have l0 := fm_isBrightHere_l hw hW hs hm w.T 0 false 3000 (by omega) (by omega)
  rw [show bI true = nI 1 from rfl] at l1
  rw [show bI false = nI 0 from rfl] at l0
  rw [l1, l0]
  cases q : w.dark s.rm <;> simp
theorem fc_hasLight_l {σ : cS} {w : Wd} {s : St} {i : Nat} (hw : Wd.ok w) (hW : CWd σ w) (hs : St.ok w s) (hm : RSt σ i s) : ∀ (d x : Nat) (n : Nat), x + d = w.T → d < n → fc_X3_hasLight_19 n σ (some i) (nI x) = some (bI ((List.range' x d).any fun x => decide (w.kind x = 108) && s.on x && sHand s x), σ) := by
  have hT : w.T ≤ 12 := hw.1.2.2.1
  have eT := hW.1.2.2.1
  obtain ⟨d1, d2, d3, d4⟩ := hm.cons
  have b5 : cln σ 13 (1 + i) = 12 := hm.2.1.2.2.2.2
  intro d
  induction d with
  | zero =>
    intro x n hx hn
    obtain ⟨n, rfl⟩ : ∃ k, n = k + 1 := ⟨n - 1, by omega⟩
    have x1 : w.T ≤ x := by omega
    rw [fc_X3_hasLight_19]
    simp (disch := omega) only [n0, n1, eT, jLe, x1, jz0, if_true]
    rfl
  | succ d ih =>
    intro x n hx hn
    obtain ⟨n, rfl⟩ : ∃ k, n = k + 1 := ⟨n - 1, by omega⟩
    have x1 : ¬ w.T ≤ x := by omega
    have x2 : ¬ 12 ≤ x := by omega
    have c1 : (nI x).toNatClampNeg = x := jCl (by omega)
    obtain ⟨-, -, e13⟩ := hW.2.2.2.2.2.1 x (by omega)
    obtain ⟨-, -, e37⟩ := hm.2.2.2 x (by omega)
    have hk : w.kind x < 1000 := by obtain ⟨-, -, -, -, h, -⟩ := hw.2.2.2.2.2.1 x (by omega); omega
    rw [fc_X3_hasLight_19, fc_isAtHand_s hw hs eT hm (show x < w.T by omega), d1, Option.bind_some, d4, Option.bind_some]
    unfold fc_X3_hasLight_64
    rw [List.range'_succ, List.any_cons]
    simp (disch := omega) only [n0, n1, n108, eT, jLe, jEq, jLt, jz1, x1, x2, c1, e13, e37, b5, bI_0, Nat.not_lt_zero, false_or, if_false, if_true, Option.bind_some, jAdd]
    rw [ih (x + 1) n (by omega) (by omega)]
    by_cases q : w.kind x = 108 <;> cases q2 : s.on x <;> cases q3 : sHand s x <;> simp [q] <;> rfl
theorem fc_hasLight_s {σ : cS} {w : Wd} {s : St} {i : Nat} (hw : Wd.ok w) (hW : CWd σ w) (hs : St.ok w s) (hm : RSt σ i s) : fc_X3_hasLight σ (some i) = some (bI (sLight w s), σ) := by
  have hT : w.T ≤ 12 := hw.1.2.2.1
  have hR := hw.1.2.1
  have hr := hs.1
  have c1 : (nI s.rm).toNatClampNeg = s.rm := jCl (by omega)
  have x2 : ¬ 12 ≤ s.rm := by omega
  have e5 := hW.2.2.1 s.rm hr
  have e0 := hm.2.2.1
  unfold fc_X3_hasLight sLight
  rw [hm.cons.1, Option.bind_some]
  simp (disch := omega) only [n0, n1, e0, c1, x2, e5, jLt, jz1, bI_0, Nat.not_lt_zero, false_or, if_false, if_true]
  rw [fc_hasLight_l hw hW hs hm w.T 0 3000 (by omega) (by omega)]
  cases q : w.dark s.rm <;> simp [bI]
theorem fm_canReach_s {τ : mS} {w : Wd} {s : St} {x : Nat} (hw : Wd.ok w) (hW : MWd τ w) (hs : St.ok w s) (hm : MSt τ w.T s) (hx : x < w.T) : fm_canReach τ (nI x) = some (bI (sReach s (sLight w s) x), τ) := by
  unfold fm_canReach fm_canReach_20 sReach
  rw [fm_isBrightHere_s hw hW hs hm, Option.bind_some]
  simp only [fm_isHeld_s hw hs hm hx, fm_isAtHand_s hw hs hm hx, Option.bind_some, n0, n1, bI_z, bI_0, if_true]
  cases sLight w s <;> simp
theorem fc_isInReach_s {σ : cS} {w : Wd} {s : St} {x i : Nat} {li : Bool} (hw : Wd.ok w) (hW : CWd σ w) (hs : St.ok w s) (hm : RSt σ i s) (hx : x < w.T) : fc_X3_isInReach σ (some i) (nI x) (bI li) = some (bI (sReach s li x), σ) := by
  unfold fc_X3_isInReach fc_X3_isInReach_19 sReach
  simp only [fc_isHeld_s hw hs hW.1.2.2.1 hm hx, fc_isAtHand_s hw hs hW.1.2.2.1 hm hx, Option.bind_some, n0, n1, bI_z, bI_0, if_true]
  cases li <;> simp
