/-! What a command does to a thing, the class's side. -/
def sTake (w : Wd) (s : St) (x : Nat) : Option St := if s.pl x = 100 ∨ 12 < sWeight w s (some x) then none else some (sPut s x 100)
def sDrop (s : St) (x : Nat) : Option St := if s.pl x = 100 then some (sPut s x s.rm) else none
def sTurn (w : Wd) (s : St) (x k : Nat) (b : Bool) : Option St := if w.kind x = k ∧ s.on x ≠ b then some (sOn s x b) else none
def sStow (w : Wd) (s : St) (x b : Nat) : Option St := if s.pl x = 100 ∧ w.kind x ≠ 98 ∧ w.kind b = 98 ∧ s.on b = true ∧ sCount w s b ≤ 2 then some (sPut s x (200 + b)) else none
def sMove (w : Wd) (s : St) (d : Nat) : Option St := (sFree w s (6 * s.rm + d)).map (sRm s)
/-- what comes of a trial: whether it was done, and the state then -/
def CDo (σ : cS) (i : Nat) (s : St) (r : Option St) (f : Option (Int32 × cS)) : Prop := ∃ σ', f = some (bI r.isSome, σ') ∧ RSt σ' i (r.getD s) ∧ cFr (cSc i) σ σ' ∧ cn σ' = cn σ
theorem CDo.no {σ : cS} {i : Nat} {s : St} (hm : RSt σ i s) : CDo σ i s none (some (nI 0, σ)) := ⟨σ, rfl, hm, cFr.rf _ _, rfl⟩
theorem CDo.id {σ : cS} {i : Nat} {s : St} (hm : RSt σ i s) : CDo σ i s (some s) (some (nI 1, σ)) := ⟨σ, rfl, hm, cFr.rf _ _, rfl⟩
theorem sPut_ok {w : Wd} {s : St} {x p : Nat} (hs : St.ok w s) (hx : x < w.T) (h1 : p < w.R ∨ p = 100 ∨ (200 ≤ p ∧ p - 200 < w.T ∧ w.kind (p - 200) = 98 ∧ w.kind x ≠ 98)) (h2 : w.kind x = 98 → p < 200) : St.ok w (sPut s x p) := by
  refine ⟨hs.1, fun y hy => ?_, fun y hy => ?_⟩
  · obtain ⟨a1, a2, a3, a4, a5⟩ := hs.2.1 y hy
    have e : (sPut s x p).pl y = if y = x then p else s.pl y := rfl
    by_cases q : y = x
    · subst q
      rw [if_pos rfl] at e
      exact ⟨by rw [e]; exact h1, by rw [e]; exact h2, a3, a4, a5⟩
    · rw [if_neg q] at e
      exact ⟨by rw [e]; exact a1, by rw [e]; exact a2, a3, a4, a5⟩
  · obtain ⟨a1, a2, a3⟩ := hs.2.2 y hy
    have e : (sPut s x p).pl y = if y = x then p else s.pl y := rfl
    rw [if_neg (by omega)] at e
    exact ⟨by rw [e]; exact a1, a2, a3⟩
theorem sPut_back (s : St) (x p : Nat) : sPut (sPut s x p) x (s.pl x) = s := by
  have e : (fun y => if y = x then s.pl x else if y = x then p else s.2.1 y) = s.2.1 := funext fun y => by
    by_cases q : y = x
    · subst q; rw [if_pos rfl]; rfl
    · rw [if_neg q, if_neg q]
  show (s.1, (fun y => if y = x then s.pl x else if y = x then p else s.2.1 y), s.2.2) = s
  rw [e]
section SJ
variable {σ : cS} {w : Wd} {s : St} {i x b : Nat}
theorem fc_pickUp_s (hw : Wd.ok w) (hW : CWd σ w) (hl : cLbs σ) (hs : St.ok w s) (hm : RSt σ i s) (hx : x < w.T) : CDo σ i s (sTake w s x) (fc_X3_pickUp σ (some i) (nI x)) := by
  have hT : w.T ≤ 12 := hw.1.2.2.1
  have hR := hw.1.2.1
  obtain ⟨h1, hk, -, -, -⟩ := hs.2.1 x hx
  have hp : s.pl x < 1000 := by omega
  obtain ⟨d1, d2, d3, d4⟩ := hm.cons
  obtain ⟨-, -, b3, b4, b5⟩ := hm.2.1
  obtain ⟨e1, -, -⟩ := hm.2.2.2 x (by omega)
  have c1 : (nI x).toNatClampNeg = x := jCl (by omega)
  have x1 : ¬ 12 ≤ x := by omega
  have hm1 := hm.uPl x 100
  obtain ⟨f1, f2, f3, f4⟩ := hm1.cons
  have fr : cFr (cSc i) σ (uI σ 12 (13 + 2 * i) x (nI 100)) := cFr.I (by simp [cSc])
  have hs1 : St.ok w (sPut s x 100) := sPut_ok hs hx (Or.inr (Or.inl rfl)) (by omega)
  have hcw := fc_carriedWeight_s hw (hW.fr hl fr (cSc_W i)) hs1 hm1
  rw [sWeight_put] at hcw
  have hle := sWeight_le hw s (some x)
  unfold fc_X3_pickUp sTake
  rw [d1, Option.bind_some, d2, Option.bind_some]
  simp (disch := omega) only [n0, n1, n100, n12, b3, c1, x1, e1, jEq, jLt, jz0, jz1, hcw, Option.bind_some, Nat.not_lt_zero, false_or, if_false, if_true, f1, f2]
  by_cases q : s.pl x = 100
  · simp only [q, if_true, true_or]
    exact CDo.no hm
  · by_cases q2 : 12 < sWeight w s (some x)
    · simp only [q, q2, if_true, if_false, or_true]
      rw [show cln (uI σ 12 (13 + 2 * i) x (nI 100)) 12 (13 + 2 * i) = 12 from b3, if_neg x1]
      refine ⟨_, rfl, ?_, fr.tr (cFr.I (by simp [cSc])), rfl⟩
      have hm2 := hm1.uPl x (s.pl x)
      rw [sPut_back] at hm2
      exact hm2
    · simp only [q, q2, if_false, or_self]
      exact ⟨_, rfl, hm1, fr, rfl⟩
theorem fc_layDown_s (hw : Wd.ok w) (hs : St.ok w s) (hm : RSt σ i s) (hx : x < w.T) : CDo σ i s (sDrop s x) (fc_X3_layDown σ (some i) (nI x)) := by
  have hT : w.T ≤ 12 := hw.1.2.2.1
  have hR := hw.1.2.1
  obtain ⟨h1, hk, -, -, -⟩ := hs.2.1 x hx
  have hp : s.pl x < 1000 := by omega
  obtain ⟨d1, d2, d3, d4⟩ := hm.cons
  obtain ⟨-, -, b3, b4, b5⟩ := hm.2.1
  obtain ⟨e1, -, -⟩ := hm.2.2.2 x (by omega)
  have c1 : (nI x).toNatClampNeg = x := jCl (by omega)
  have x1 : ¬ 12 ≤ x := by omega
  unfold fc_X3_layDown sDrop
  rw [d1, Option.bind_some, d2, Option.bind_some]
  simp (disch := omega) only [n0, n1, n100, b3, c1, x1, e1, hm.2.2.1, jEq, jLt, jz0, jz1, Nat.not_lt_zero, false_or, if_false, if_true]
  by_cases q : s.pl x = 100
  · simp only [q, if_true]
    exact ⟨_, rfl, hm.uPl x s.rm, cFr.I (by simp [cSc]), rfl⟩
  · simp only [q, if_false]
    exact CDo.no hm
theorem bI_inj {a b : Bool} : bI a = bI b ↔ a = b := by cases a <;> cases b <;> decide
theorem fc_turn_s {k : Nat} {v : Bool} (hw : Wd.ok w) (hW : CWd σ w) (hm : RSt σ i s) (hx : x < w.T) (hk : k < 1000) : CDo σ i s (sTurn w s x k v) (fc_X3_turn σ (some i) (nI x) (nI k) (bI v)) := by
  have hT : w.T ≤ 12 := hw.1.2.2.1
  obtain ⟨d1, d2, d3, d4⟩ := hm.cons
  obtain ⟨-, -, b3, b4, b5⟩ := hm.2.1
  obtain ⟨-, -, e37⟩ := hm.2.2.2 x (by omega)
  obtain ⟨-, -, e13⟩ := hW.2.2.2.2.2.1 x hx
  have hk2 : w.kind x < 1000 := by obtain ⟨-, -, -, -, h, -⟩ := hw.2.2.2.2.2.1 x hx; omega
  have c1 : (nI x).toNatClampNeg = x := jCl (by omega)
  have x1 : ¬ 12 ≤ x := by omega
  unfold fc_X3_turn fc_X3_turn_24 sTurn
  rw [d1, Option.bind_some, d4, Option.bind_some]
  simp (disch := omega) only [n0, n1, b5, c1, x1, e13, e37, bI_z, bI_inj, jEq, jLt, jz0, jz1, Nat.not_lt_zero, false_or, if_false, if_true]
  by_cases q : w.kind x = k
  · by_cases q2 : s.on x = v
    · simp only [q, q2, if_true, ne_eq, not_true, and_false, if_false]
      exact CDo.no hm
    · simp only [q, q2, if_true, ne_eq, not_false_eq_true, and_self, if_false]
      exact ⟨_, rfl, hm.uOn x v, cFr.I (by simp [cSc]), rfl⟩
  · simp only [q, false_and, if_false]
    exact CDo.no hm
theorem fc_move_s {d : Nat} (hw : Wd.ok w) (hW : CWd σ w) (hs : St.ok w s) (hm : RSt σ i s) (hd : d < 6) : CDo σ i s (sMove w s d) (fc_X3_move σ (some i) (nI d)) := by
  have hR := hw.1.2.1
  have hr := hs.1
  obtain ⟨d1, d2, d3, d4⟩ := hm.cons
  unfold fc_X3_move sMove
  rw [d1, Option.bind_some, hm.2.2.1, fc_roomBehind_s hw hW hs hm (by omega) hd, Option.bind_some, d1, Option.bind_some]
  have m8 : oI (sFree w s (6 * s.rm + d)) = -nI 1 ↔ sFree w s (6 * s.rm + d) = none := oM1 fun b h => by
    unfold sFree at h
    split at h
    · exact ok_ex hw h
    · split at h
      · exact ok_ex hw h
      · cases h
  simp only [n0, n1, m8, jz0, jz1, if_true]
  cases hq : sFree w s (6 * s.rm + d) with
  | none => rw [if_pos rfl]; exact CDo.no hm
  | some r => rw [if_neg (by simp)]; exact ⟨_, rfl, hm.uRm r, cFr.I (by simp [cSc]), rfl⟩
theorem fc_stow_s (hw : Wd.ok w) (hW : CWd σ w) (hs : St.ok w s) (hm : RSt σ i s) (hx : x < w.T) (hb : b < w.T) : CDo σ i s (sStow w s x b) (fc_X3_stow σ (some i) (nI x) (nI b)) := by
  have hT : w.T ≤ 12 := hw.1.2.2.1
  have hR := hw.1.2.1
  obtain ⟨h1, -, -, -, -⟩ := hs.2.1 x hx
  have hp : s.pl x < 1000 := by omega
  obtain ⟨d1, d2, d3, d4⟩ := hm.cons
  obtain ⟨-, -, b3, b4, b5⟩ := hm.2.1
  obtain ⟨e1, -, -⟩ := hm.2.2.2 x (by omega)
  obtain ⟨-, -, e37⟩ := hm.2.2.2 b (by omega)
  obtain ⟨-, -, e13⟩ := hW.2.2.2.2.2.1 x hx
  obtain ⟨-, -, g13⟩ := hW.2.2.2.2.2.1 b hb
  have hk2 : w.kind x < 1000 := by obtain ⟨-, -, -, -, h, -⟩ := hw.2.2.2.2.2.1 x hx; omega
  have hk3 : w.kind b < 1000 := by obtain ⟨-, -, -, -, h, -⟩ := hw.2.2.2.2.2.1 b hb; omega
  have c1 : (nI x).toNatClampNeg = x := jCl (by omega)
  have x1 : ¬ 12 ≤ x := by omega
  have c2 : (nI b).toNatClampNeg = b := jCl (by omega)
  have x2 : ¬ 12 ≤ b := by omega
  have hc : sCount w s b < 100000 := by
    have h := sumR_le (f := fun x => if s.pl x = 200 + b then 1 else 0) (B := 1) w.T 0 fun y _ _ => by
      show (if s.pl y = 200 + b then 1 else 0) ≤ 1
      split <;> omega
    unfold sCount
    omega
  have q6 : 3 ≤ sCount w s b ↔ ¬ sCount w s b ≤ 2 := by omega
  have n01 : ¬ nI 1 = nI 0 := by decide
  have k70 : ∀ v u : Bool, fc_X3_stow_70 σ (some i) (nI x) (nI b) (bI v) (bI u) = if v = true ∧ u = true then some (nI 1, uI σ 12 (13 + 2 * i) x (nI (200 + b))) else some (nI 0, σ) := fun v u => by
    unfold fc_X3_stow_70 fc_X3_stow_82
    simp (disch := omega) only [d1, d2, n0, n1, n200, Option.bind_some, b3, c1, x1, bI_0, jLt, jAdd, jz0, jz1, Nat.not_lt_zero, false_or, if_false, if_true]
    cases v <;> cases u <;> simp
  have k30 : ∀ v : Bool, fc_X3_stow_30 σ (some i) (nI x) (nI b) (bI v) = if v = true ∧ w.kind b = 98 ∧ s.on b = true ∧ sCount w s b ≤ 2 then some (nI 1, uI σ 12 (13 + 2 * i) x (nI (200 + b))) else some (nI 0, σ) := fun v => by
    unfold fc_X3_stow_30 fc_X3_stow_69
    rw [fc_countIn_s hw hW hs hm (by omega)]
    rw [show (0 : Int32) = bI false from rfl, show (1 : Int32) = bI true from rfl]
    simp only [k70, Option.bind_some]
    simp (disch := omega) only [d1, d4, n98, show bI false = nI 0 from rfl, show (3 : Int32) = nI 3 from rfl, Option.bind_some, q6, b5, c2, x2, g13, e37, bI_0, jEq, jLt, jLe, Nat.not_lt_zero, false_or, if_false]
    by_cases q3 : w.kind b = 98 <;> cases q4 : s.on b <;> by_cases q5 : sCount w s b ≤ 2 <;> cases v <;> simp [q3, q5]
  unfold fc_X3_stow fc_X3_stow_29 sStow
  rw [show (0 : Int32) = bI false from rfl, show (1 : Int32) = bI true from rfl]
  simp only [k30]
  simp (disch := omega) only [d1, d2, n98, n100, show bI false = nI 0 from rfl, Option.bind_some, b3, c1, x1, e1, e13, jEq, jLt, Nat.not_lt_zero, false_or, if_false]
  by_cases q1 : s.pl x = 100 <;> by_cases q2 : w.kind x = 98 <;> by_cases q7 : w.kind b = 98 ∧ s.on b = true ∧ sCount w s b ≤ 2 <;> simp only [q1, q2, q7, n01, if_true, if_false, not_true, not_false_eq_true, ne_eq, and_true, true_and, and_self, and_false, false_and, Bool.false_eq_true, Bool.true_eq_false] <;> first | exact CDo.no hm | exact ⟨_, rfl, hm.uPl x (200 + b), cFr.I (by simp [cSc]), rfl⟩
end SJ
