/-! Directions: both sides. -/
def sDir (c : Nat) : Option Nat := if c = 110 then some 0 else if c = 101 then some 1 else if c = 115 then some 2 else if c = 119 then some 3 else if c = 117 then some 4 else if c = 100 then some 5 else none
def sDsg (d : Nat) : Nat := [110, 101, 115, 119, 117, 100].getD d 0
theorem sDir_lt {c d : Nat} (h : sDir c = some d) : d < 6 ∧ c = sDsg d := by
  unfold sDir at h
  repeat' split at h
  all_goals first
    | (have h := Option.some.inj h; subst h; subst_vars; exact ⟨by decide, rfl⟩)
    | cases h
theorem sDir_of : ∀ d, d < 6 → sDir (sDsg d) = some d := by decide
theorem fm_directionOf_s {c : Nat} (hc : c < 100000) : fm_directionOf (nI c) = some (oI (sDir c)) := by
  unfold fm_directionOf fm_directionOf_61 sDir
  simp (disch := omega) only [show ((110 : Int32) = nI 110) from rfl, show ((101 : Int32) = nI 101) from rfl, show ((115 : Int32) = nI 115) from rfl, show ((119 : Int32) = nI 119) from rfl, show ((117 : Int32) = nI 117) from rfl, n100, jEq]
  repeat' split
  all_goals rfl
theorem i8 : ∀ c, c < 256 → ∀ d, d < 6 → (nI (sDsg d) = (nI c).toInt8.toInt32 ↔ sDsg d = c) := by decide +kernel
theorem fc_ixc_s {σ : cS} {v : Int32} : fc_J1_indexOfChar_4cfef_7 3000 σ (some 14) (nI 6) v (nI 0) = some (if nI 110 = v then nI 0 else if nI 101 = v then nI 1 else if nI 115 = v then nI 2 else if nI 119 = v then nI 3 else if nI 117 = v then nI 4 else if nI 100 = v then nI 5 else -nI 1, σ) := by
  have st : ∀ (k n : Nat), k < 6 → fc_J1_indexOfChar_4cfef_7 (n + 1) σ (some 14) (nI 6) v (nI k) = if nI (sDsg k) = v then some (nI k, σ) else fc_J1_indexOfChar_4cfef_7 n σ (some 14) (nI 6) v (nI (k + 1)) := by
    intro k n hk
    have x1 : ¬ 6 ≤ k := by omega
    have c1 : (nI k).toNatClampNeg = k := jCl (by omega)
    have e : (tB.getD 14 []).getD k (nI 0) = nI (sDsg k) := by
      rcases k with _ | _ | _ | _ | _ | _ | k <;> first | rfl | omega
    rw [fc_J1_indexOfChar_4cfef_7, show dt (some 14) = some 14 from rfl, Option.bind_some, show tL.getD 14 0 = 6 from rfl]
    simp (disch := omega) only [n0, n1, jLe, jLt, x1, c1, Nat.not_lt_zero, false_or, if_false, jAdd, e]
  rw [show (3000 : Nat) = 2993 + 1 + 1 + 1 + 1 + 1 + 1 + 1 from rfl, st 0 _ (by omega), st 1 _ (by omega), st 2 _ (by omega), st 3 _ (by omega), st 4 _ (by omega), st 5 _ (by omega), show fc_J1_indexOfChar_4cfef_7 (2993 + 1) σ (some 14) (nI 6) v (nI (5 + 1)) = some (-nI 1, σ) by rw [fc_J1_indexOfChar_4cfef_7]; exact if_pos (by decide)]
  rw [show sDsg 0 = 110 from rfl, show sDsg 1 = 101 from rfl, show sDsg 2 = 115 from rfl, show sDsg 3 = 119 from rfl, show sDsg 4 = 117 from rfl, show sDsg 5 = 100 from rfl]
  repeat' split
  all_goals rfl
theorem fc_indexOf_s {σ : cS} {c : Nat} (hc : c < 100000) : fc_J0_indexOf_0f7a4 σ (some 14) (nI c) = some (oI (sDir c), σ) := by
  unfold fc_J0_indexOf_0f7a4 fc_J0_indexOf_7cf53 fc_J1_indexOf_4cfef fc_J1_indexOfChar_4cfef
  have d14 : dt (some 14) = some 14 := rfl
  have l1 : fc_J0_isLatin1_aae02 σ (some 14) = some (1, σ) := rfl
  have l2 : fc_J0_length_8abf5 σ (some 14) = some (nI 6, σ) := by
    show some ((nI 6) >>> ((0 : Int32) &&& 31), σ) = _
    rw [show (nI 6) >>> ((0 : Int32) &&& 31) = nI 6 by decide]
  simp only [d14, l1, Option.bind_some, show ((1 : Int32) = 0) = False from eq_false (by decide), if_false, l2]
  by_cases q : 255 < c
  · have e : fc_J1_canEncode_9a6ad σ (nI c) = some (0, σ) := by
      unfold fc_J1_canEncode_9a6ad fc_J1_canEncode_9a6ad_15
      rw [if_neg (by rw [n0, jLt (by omega) (by omega)]; omega), if_pos (by rw [show ((255 : Int32) = nI 255) from rfl, jLt (by omega) (by omega)]; exact q)]
      rfl
    rw [e, Option.bind_some, if_pos rfl, Option.bind_some, Option.bind_some]
    have e2 : sDir c = none := by
      unfold sDir
      rw [if_neg (by omega), if_neg (by omega), if_neg (by omega), if_neg (by omega), if_neg (by omega), if_neg (by omega)]
    rw [e2]
    rfl
  · have e : fc_J1_canEncode_9a6ad σ (nI c) = some (1, σ) := by
      unfold fc_J1_canEncode_9a6ad fc_J1_canEncode_9a6ad_16
      rw [if_neg (by rw [n0, jLt (by omega) (by omega)]; omega), if_neg (by rw [show ((255 : Int32) = nI 255) from rfl, jLt (by omega) (by omega)]; exact q)]
      rfl
    have e3 : (if (if (0 : Int32) < (0 : Int32) then (0 : Int32) else 0) < (if (nI (tL.getD 14 0)) < nI 6 then (nI (tL.getD 14 0)) else nI 6) then True else False) = True := rfl
    rw [e, Option.bind_some, if_neg (show ¬ (1 : Int32) = 0 by decide), if_pos (by decide)]
    rw [show (if (0 : Int32) < (0 : Int32) then (0 : Int32) else 0) = nI 0 from rfl, show (if (nI (tL.getD 14 0)) < nI 6 then (nI (tL.getD 14 0)) else nI 6) = nI 6 from rfl, fc_ixc_s, Option.bind_some, Option.bind_some, Option.bind_some]
    have g := fun d hd => i8 c (by omega) d hd
    have g0 := g 0 (by omega)
    have g1 := g 1 (by omega)
    have g2 := g 2 (by omega)
    have g3 := g 3 (by omega)
    have g4 := g 4 (by omega)
    have g5 := g 5 (by omega)
    simp only [show sDsg 0 = 110 from rfl, show sDsg 1 = 101 from rfl, show sDsg 2 = 115 from rfl, show sDsg 3 = 119 from rfl, show sDsg 4 = 117 from rfl, show sDsg 5 = 100 from rfl, eq_comm (b := c)] at g0 g1 g2 g3 g4 g5
    simp only [g0, g1, g2, g3, g4, g5]
    unfold sDir
    repeat' split
    all_goals rfl
theorem fc_exitIn_s {σ : cS} {c : Nat} (hc : c < 100000) (r : Nat) : fc_X11_exitIn σ (nI r) (nI c) = some (match sDir c with | none => .inl 1 | some d => .inr (nI (6 * r + d)), σ) := by
  unfold fc_X11_exitIn
  rw [fc_indexOf_s hc, Option.bind_some]
  cases e : sDir c with
  | none => exact if_neg (show ¬ (0 : Int32) ≤ -nI 1 by decide)
  | some d =>
    have := (sDir_lt e).1
    show (if 0 ≤ nI d then _ else _) = _
    rw [if_pos (by rw [n0, jLe (by omega) (by omega)]; omega), n6, jMul, Nat.mul_comm]
    show some (Sum.inr (nI (6 * r) + nI d), σ) = some (Sum.inr (nI (6 * r + d)), σ)
    rw [jAdd]
