/-! Numbers out of a script: whether one is of a room, a thing, a word; both sides. -/
def vIn (v : Int32) (N : Nat) : Bool := decide (¬ v < 0 ∧ v.toNatClampNeg < N)
theorem vIn_of {v : Int32} {N : Nat} (hN : N < 100000) (h : vIn v N = true) : v = nI v.toNatClampNeg ∧ v.toNatClampNeg < N := by
  obtain ⟨h1, h2⟩ := of_decide_eq_true h
  obtain ⟨j, hj, e⟩ := nI_of h1
  refine ⟨?_, h2⟩
  rw [e, nI_clamp hj]
theorem vlt0 (v : Int32) : v < 0 ↔ v.toInt < 0 := by
  rw [Int32.lt_iff_toInt_lt]
  exact Iff.rfl
theorem vIn_int {v : Int32} {N : Nat} : vIn v N = decide (0 ≤ v.toInt ∧ v.toInt < (N : Int)) := by
  unfold vIn
  rw [decide_eq_decide, vlt0]
  show ¬ v.toInt < 0 ∧ v.toInt.toNat < N ↔ _
  omega
theorem jPred {N : Nat} (hN : N < 100000) : (nI N - 1).toInt = (N : Int) - 1 := by
  cases N with
  | zero => decide
  | succ k =>
    rw [n1, jSub (by omega), nI_toInt (by omega)]
    omega
theorem fm_isBetween_s {v : Int32} {N : Nat} (hN : N < 100000) : fm_isBetween v 0 (nI N - 1) = some (bI (vIn v N)) := by
  unfold fm_isBetween fm_isBetween_14 fm_isBetween_15
  rw [vIn_int]
  by_cases q : v < 0
  · rw [if_pos q]
    have q' := (vlt0 v).mp q
    have : ¬ (0 ≤ v.toInt ∧ v.toInt < (N : Int)) := by omega
    rw [decide_eq_false this]
    rfl
  · rw [if_neg q]
    have q' : ¬ v.toInt < 0 := fun h => q ((vlt0 v).mpr h)
    by_cases q2 : nI N - 1 < v
    · rw [if_pos q2]
      rw [Int32.lt_iff_toInt_lt, jPred hN] at q2
      have : ¬ (0 ≤ v.toInt ∧ v.toInt < (N : Int)) := by omega
      rw [decide_eq_false this]
      rfl
    · rw [if_neg q2]
      rw [Int32.lt_iff_toInt_lt, jPred hN] at q2
      have : 0 ≤ v.toInt ∧ v.toInt < (N : Int) := by omega
      rw [decide_eq_true this]
      rfl
section SP
variable {τ : mS} {σ : cS} {w : Wd} {v : Int32}
theorem fm_isThing_s (hw : Wd.ok w) (hW : MWd τ w) : fm_isThing τ v = some (bI (vIn v w.T), τ) := by
  have := hw.1.2.2.1
  unfold fm_isThing
  rw [hW.1.2.2.1, fm_isBetween_s (by omega), Option.bind_some]
  exact if_pos (bI_z _)
theorem fm_isRoom_s (hw : Wd.ok w) (hW : MWd τ w) : fm_isRoom τ v = some (bI (vIn v w.R), τ) := by
  have := hw.1.2.1
  unfold fm_isRoom
  rw [hW.1.2.1, fm_isBetween_s (by omega), Option.bind_some]
  exact if_pos (bI_z _)
theorem fm_isWord_s (hw : Wd.ok w) (hW : MWd τ w) : fm_isWord τ v = some (bI (vIn v w.W), τ) := by
  have := hw.1.1
  unfold fm_isWord
  rw [hW.1.1, fm_isBetween_s (by omega), Option.bind_some]
  exact if_pos (bI_z _)
theorem v_in {N : Nat} {α : Type} {f : Int32 → Option α} (hN : N < 100000) : (if v < 0 then f (nI 0) else if nI N ≤ v then f (nI 0) else f (nI 1)) = f (bI (vIn v N)) := by
  rw [vIn_int]
  by_cases q : v < 0
  · rw [if_pos q]
    have q' := (vlt0 v).mp q
    have : ¬ (0 ≤ v.toInt ∧ v.toInt < (N : Int)) := by omega
    rw [decide_eq_false this]
    rfl
  · rw [if_neg q]
    have q' : ¬ v.toInt < 0 := fun h => q ((vlt0 v).mpr h)
    by_cases q2 : nI N ≤ v
    · rw [if_pos q2]
      rw [Int32.le_iff_toInt_le, nI_toInt (by omega)] at q2
      have : ¬ (0 ≤ v.toInt ∧ v.toInt < (N : Int)) := by omega
      rw [decide_eq_false this]
      rfl
    · rw [if_neg q2]
      rw [Int32.le_iff_toInt_le, nI_toInt (by omega)] at q2
      have : 0 ≤ v.toInt ∧ v.toInt < (N : Int) := by omega
      rw [decide_eq_true this]
      rfl
theorem fc_hasThing_v (hw : Wd.ok w) (hW : CWd σ w) : fc_X10_hasThing σ v = some (bI (vIn v w.T), σ) := by
  have := hw.1.2.2.1
  unfold fc_X10_hasThing fc_X10_hasThing_16
  rw [hW.1.2.2.1]
  refine (v_in (f := fc_X10_hasThing_17 σ) (by omega)).trans ?_
  exact if_pos (bI_z _)
theorem fc_hasRoom_v (hw : Wd.ok w) (hW : CWd σ w) : fc_X10_hasRoom σ v = some (bI (vIn v w.R), σ) := by
  have := hw.1.2.1
  unfold fc_X10_hasRoom fc_X10_hasRoom_16
  rw [hW.1.2.1]
  refine (v_in (f := fc_X10_hasRoom_17 σ) (by omega)).trans ?_
  exact if_pos (bI_z _)
theorem fc_hasWord_v (hw : Wd.ok w) (hW : CWd σ w) : fc_X10_hasWord σ v = some (bI (vIn v w.W), σ) := by
  have := hw.1.1
  unfold fc_X10_hasWord fc_X10_hasWord_16
  rw [hW.1.1]
  refine (v_in (f := fc_X10_hasWord_17 σ) (by omega)).trans ?_
  exact if_pos (bI_z _)
end SP
