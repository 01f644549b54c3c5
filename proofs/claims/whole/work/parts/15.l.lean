/-! A command on a state, the class's side. A command is its verb's number with its first and second. -/
abbrev Cm : Type := Nat × Option Nat × Option Nat
def RCm (σ : cS) (c : Nat) (q : Cm) : Prop := c < cn σ 8 ∧ cR σ 8 c 0 = some q.1 ∧ cI σ 8 c 1 = oI q.2.1 ∧ cI σ 8 c 2 = oI q.2.2
/-- a command that can be typed -/
def Cm.ok (q : Cm) : Prop := (q.1 = 1 ∧ ∃ d, d < 6 ∧ q.2.1 = some d) ∨ q.1 = 10 ∨ q.1 = 11 ∨ ((2 ≤ q.1 ∧ q.1 ≤ 8) ∧ ∃ k, k < 40 ∧ q.2.1 = some k) ∨ (q.1 = 9 ∧ (∃ k, k < 40 ∧ q.2.1 = some k) ∧ ∃ k, k < 40 ∧ q.2.2 = some k)
def sOne (w : Wd) (s : St) (v x : Nat) : Option St :=
  if v = 2 then sTake w s x else if v = 3 then sDrop s x else if v = 4 then sTurn w s x 98 true else if v = 5 then sTurn w s x 98 false else if v = 6 then (if s.fu x = 0 then none else sTurn w s x 108 true) else if v = 7 then sTurn w s x 108 false else some s
def sDo (w : Wd) (s : St) (q : Cm) : Option St :=
  if q.1 = 1 then q.2.1.bind (sMove w s) else if q.1 = 10 ∨ q.1 = 11 then some s else
  (q.2.1.bind (sThing w)).bind fun x => if sReach s (sLight w s) x then (if q.1 = 9 then (q.2.2.bind (sThing w)).bind fun y => if sReach s (sLight w s) y then sStow w s x y else none else sOne w s q.1 x) else none
theorem CDo.back {σ : cS} {i : Nat} {s : St} {r : Option St} {f : Option (Int32 × cS)} (h : CDo σ i s r f) : CDo σ i s r (f.bind fun o => if o.1 &&& 1 = o.1 then some (o.1, o.2) else none) := by
  obtain ⟨σ', h1, h2⟩ := h
  refine ⟨σ', ?_, h2⟩
  rw [h1, Option.bind_some, if_pos]
  exact bI_z _
section SL
variable {σ : cS} {w : Wd} {s : St} {i x : Nat}
theorem fc_handle_s {v : Nat} (hw : Wd.ok w) (hW : CWd σ w) (hl : cLbs σ) (hs : St.ok w s) (hm : RSt σ i s) (hx : x < w.T) (hv : 2 ≤ v ∧ v ≤ 8) : CDo σ i s (sOne w s v x) (fc_X3_handle σ (some i) (some v) (nI x)) := by
  have hT : w.T ≤ 12 := hw.1.2.2.1
  obtain ⟨d1, d2, d3, d4⟩ := hm.cons
  obtain ⟨-, -, b3, b4, b5⟩ := hm.2.1
  obtain ⟨-, e38, -⟩ := hm.2.2.2 x (by omega)
  obtain ⟨-, -, hf, -, -⟩ := hs.2.1 x hx
  have c1 : (nI x).toNatClampNeg = x := jCl (by omega)
  have x1 : ¬ 12 ≤ x := by omega
  have hq : v = 2 ∨ v = 3 ∨ v = 4 ∨ v = 5 ∨ v = 6 ∨ v = 7 ∨ v = 8 := by omega
  rcases hq with rfl | rfl | rfl | rfl | rfl | rfl | rfl
  · exact (fc_pickUp_s hw hW hl hs hm hx).back
  · exact (fc_layDown_s hw hs hm hx).back
  · exact (fc_turn_s (k := 98) (v := true) hw hW hm hx (by omega)).back
  · exact (fc_turn_s (k := 98) (v := false) hw hW hm hx (by omega)).back
  · show CDo σ i s (if s.fu x = 0 then none else sTurn w s x 108 true) ((dr σ 6 (some i)).bind fun i_6 => (dr σ 12 (cR σ 6 i_6 2)).bind fun i_7 => if nI x < 0 ∨ cln σ 12 i_7 ≤ (nI x).toNatClampNeg then none else if cI σ 12 i_7 (nI x).toNatClampNeg ≤ 0 then fc_X3_handle_107 σ else (fc_X3_turn σ (some i) (nI x) (108 : Int32) (1 : Int32)).bind fun r_8 => if r_8.1 = 0 then fc_X3_handle_107 r_8.2 else fc_X3_handle_108 r_8.2 (1 : Int32))
    obtain ⟨σ', t1, t2⟩ := fc_turn_s (k := 108) (v := true) hw hW hm hx (by omega)
    have t1 : fc_X3_turn σ (some i) (nI x) (nI 108) (nI 1) = some (bI (sTurn w s x 108 true).isSome, σ') := t1
    unfold fc_X3_handle_107 fc_X3_handle_108
    simp (disch := omega) only [n0, n1, n108, d1, d3, t1, b4, c1, x1, e38, jLe0, jLt, jz0, jz1, bI_0, Option.bind_some, Nat.not_lt_zero, false_or, if_false, if_true]
    by_cases q : s.fu x = 0
    · simp only [q, if_true]
      exact CDo.no hm
    · simp only [q, if_false]
      cases hr : sTurn w s x 108 true with
      | none =>
        rw [hr] at t2
        exact ⟨σ', rfl, t2⟩
      | some r =>
        rw [hr] at t2
        exact ⟨σ', rfl, t2⟩
  · exact (fc_turn_s (k := 108) (v := false) hw hW hm hx (by omega)).back
  · exact CDo.id hm
end SL
