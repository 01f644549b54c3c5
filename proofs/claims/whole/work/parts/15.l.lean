/-! A command on a state, the class's side. A command is its verb's number with its first and second. -/
abbrev Cm : Type := Nat × Option Nat × Option Nat
def RCm (σ : cS) (c : Nat) (q : Cm) : Prop := c < cn σ 8 ∧ cR σ 8 c 0 = some q.1 ∧ cI σ 8 c 1 = oI q.2.1 ∧ cI σ 8 c 2 = oI q.2.2
/-- a command that can be typed -/
def Cm.ok (q : Cm) : Prop := (q.1 = 1 ∧ ∃ d, d < 6 ∧ q.2.1 = some d) ∨ q.1 = 10 ∨ q.1 = 11 ∨ ((2 ≤ q.1 ∧ q.1 ≤ 8) ∧ ∃ k, k < 40 ∧ q.2.1 = some k) ∨ (q.1 = 9 ∧ (∃ k, k < 40 ∧ q.2.1 = some k) ∧ ∃ k, k < 40 ∧ q.2.2 = some k)
def sOne (w : Wd) (s : St) (v x : Nat) : Option St :=
  if v = 2 then sTake w s x else if v = 3 then sDrop s x else if v = 4 then sTurn w s x 98 true else if v = 5 then sTurn w s x 98 false else if v = 6 then (if s.fu x = 0 then none else sTurn w s x 108 true) else if v = 7 then sTurn w s x 108 false else some s
def sDo (w : Wd) (s : St) (q : Cm) : Option St :=
  if q.1 = 1 then q.2.1.bind (sMove w s) else if q.1 = 10 ∨ q.1 = 11 then some s else
  (q.2.1.bind (sThing w)).bind fun x => if sReach s (sLight w s) x then (if q.1 = 9 then (q.2.2.bind (sThing w)).bind fun y => if sReach s (sLight w s) y then sStow w s x y else none else sOne w s q.1 x) else none
theorem CDo.back {σ : cS} {i : Nat} {s : St} {r : Option St} {f : Option (Int32 × cS)} (h : CDo σ i s r f) : CDo σ i s r (f.bind fun o => if o.1 &&& 1 = o.1 then some (o.1, o.2) else none) := by
  obtain ⟨σ', h1, h2⟩ := h
  refine ⟨σ', ?_, h2⟩
  rw [h1, Option.bind_some, if_pos]
  exact bI_z _
theorem CDo.neg {σ : cS} {i : Nat} {s : St} {r : Option St} {P : Prop} [Decidable P] {f1 f2 : Option (Int32 × cS)} (h : ¬ P) (k : CDo σ i s r f2) : CDo σ i s r (if P then f1 else f2) := by rw [if_neg h]; exact k
section SL
variable {σ : cS} {w : Wd} {s : St} {i x : Nat}
theorem fc_handle_s {v : Nat} (hw : Wd.ok w) (hW : CWd σ w) (hl : cLbs σ) (hs : St.ok w s) (hm : RSt σ i s) (hx : x < w.T) (hv : 2 ≤ v ∧ v ≤ 8) : CDo σ i s (sOne w s v x) (fc_X3_handle σ (some i) (some v) (nI x)) := by
  have hT : w.T ≤ 12 := hw.1.2.2.1
  obtain ⟨d1, d2, d3, d4⟩ := hm.cons
  obtain ⟨-, -, b3, b4, b5⟩ := hm.2.1
  obtain ⟨-, e38, -⟩ := hm.2.2.2 x (by omega)
  obtain ⟨-, -, hf, -, -⟩ := hs.2.1 x hx
  have c1 : (nI x).toNatClampNeg = x := jCl (by omega)
  have x1 : ¬ 12 ≤ x := by omega
  have hq : v = 2 ∨ v = 3 ∨ v = 4 ∨ v = 5 ∨ v = 6 ∨ v = 7 ∨ v = 8 := by omega
  rcases hq with rfl | rfl | rfl | rfl | rfl | rfl | rfl
  · exact (fc_pickUp_s hw hW hl hs hm hx).back
  · exact (fc_layDown_s hw hs hm hx).back
  · exact (fc_turn_s (k := 98) (v := true) hw hW hm hx (by omega)).back
  · exact (fc_turn_s (k := 98) (v := false) hw hW hm hx (by omega)).back
  · show CDo σ i s (if s.fu x = 0 then none else sTurn w s x 108 true) ((dr σ 6 (some i)).bind fun i_6 => (dr σ 12 (cR σ 6 i_6 2)).bind fun i_7 => if nI x < 0 ∨ cln σ 12 i_7 ≤ (nI x).toNatClampNeg then none else if cI σ 12 i_7 (nI x).toNatClampNeg ≤ 0 then fc_X3_handle_107 σ else (fc_X3_turn σ (some i) (nI x) (108 : Int32) (1 : Int32)).bind fun r_8 => if r_8.1 = 0 then fc_X3_handle_107 r_8.2 else fc_X3_handle_108 r_8.2 (1 : Int32))
    obtain ⟨σ', t1, t2⟩ := fc_turn_s (k := 108) (v := true) hw hW hm hx (by omega)
    have t1 : fc_X3_turn σ (some i) (nI x) (nI 108) (nI 1) = some (bI (sTurn w s x 108 true).isSome, σ') := t1
    unfold fc_X3_handle_107 fc_X3_handle_108
    simp (disch := omega) only [n0, n1, n108, d1, d3, t1, b4, c1, x1, e38, jLe0, jLt, jz0, jz1, bI_0, Option.bind_some, Nat.not_lt_zero, false_or, if_false, if_true]
    by_cases q : s.fu x = 0
    · simp only [q, if_true]
      exact CDo.no hm
    · simp only [q, if_false]
      cases hr : sTurn w s x 108 true with
      | none =>
        rw [hr] at t2
        exact ⟨σ', rfl, t2⟩
      | some r =>
        rw [hr] at t2
        exact ⟨σ', rfl, t2⟩
  · exact (fc_turn_s (k := 108) (v := false) hw hW hm hx (by omega)).back
  · exact CDo.id hm
theorem vQ_1 {v : Nat} (h : 2 ≤ v ∧ v ≤ 8) : vQ.getD v 0 = nI 1 := by
  have hq : v = 2 ∨ v = 3 ∨ v = 4 ∨ v = 5 ∨ v = 6 ∨ v = 7 ∨ v = 8 := by omega
  rcases hq with rfl | rfl | rfl | rfl | rfl | rfl | rfl <;> rfl
theorem dv_mk {v : Nat} (h : v < 15) : dv (some v) = some v := if_pos h
theorem oI_m1 {x : Nat} (h : x < 100000) : oI (some x) = -nI 1 ↔ False := jM1 h
theorem fc_perform_s {c : Nat} {q : Cm} (hw : Wd.ok w) (hW : CWd σ w) (hl : cLbs σ) (hs : St.ok w s) (hm : RSt σ i s) (hc : RCm σ c q) (hq : Cm.ok q) : CDo σ i s (sDo w s q) (fc_X3_perform σ (some i) (some c)) := by
  have hT : w.T ≤ 12 := hw.1.2.2.1
  obtain ⟨v, a, b⟩ := q
  obtain ⟨r1, r2, r3, r4⟩ := hc
  have r2 : cR σ 8 c 0 = some v := r2
  have r3 : cI σ 8 c 1 = oI a := r3
  have r4 : cI σ 8 c 2 = oI b := r4
  have n01 : ¬ nI 1 = nI 0 := by decide
  have hv : v < 15 := by
    rcases hq with ⟨h, -⟩ | h | h | ⟨h, -⟩ | ⟨h, -⟩ <;> simp only at h <;> omega
  have hvv : lvv (some v) = true := decide_eq_true hv
  unfold fc_X3_perform
  rw [dr_mk r1, Option.bind_some, r2, r3, if_neg (by rw [hvv]; decide)]
  by_cases q1 : v = 1
  · subst q1
    rw [if_pos rfl]
    obtain ⟨d, hd, hd2⟩ : ∃ d, d < 6 ∧ a = some d := by
      rcases hq with ⟨-, h⟩ | h | h | ⟨h, -⟩ | ⟨h, -⟩
      · exact h
      all_goals (simp only at h; omega)
    subst hd2
    exact (fc_move_s hw hW hs hm hd).back
  · rw [if_neg (fun h => q1 (Option.some.inj h)), dv_mk hv, Option.bind_some]
    by_cases q2 : v = 10 ∨ v = 11
    · have e : sDo w s (v, a, b) = some s := by
        unfold sDo
        simp only [q1, q2, if_true, if_false]
      rw [e]
      rcases q2 with rfl | rfl <;> exact CDo.id hm
    · have hv2 : 2 ≤ v ∧ v ≤ 9 := by
        rcases hq with ⟨h, -⟩ | h | h | ⟨h, -⟩ | ⟨h, -⟩ <;> simp only at h <;> omega
      obtain ⟨k, hk, rfl⟩ : ∃ k, k < 40 ∧ a = some k := by
        rcases hq with ⟨h, -⟩ | h | h | ⟨-, h⟩ | ⟨-, h, -⟩
        · simp only at h; omega
        · simp only at h; omega
        · simp only at h; omega
        · exact h
        · exact h
      have hQ : ¬ vQ.getD v 0 = (0 : Int32) := by
        by_cases h9 : v = 9
        · subst h9; decide
        · rw [vQ_1 (by omega)]; decide
      have e : sDo w s (v, some k, b) = (sThing w k).bind fun x => if sReach s (sLight w s) x then (if v = 9 then (b.bind (sThing w)).bind fun y => if sReach s (sLight w s) y then sStow w s x y else none else sOne w s v x) else none := by
        unfold sDo
        simp only [q1, q2, if_false]
        rfl
      rw [e, if_neg hQ, fc_hasLight_s hw hW hs hm, Option.bind_some]
      show CDo σ i s _ ((dr σ 8 (some c)).bind fun i_4 => (fc_X10_thingOf σ (cI σ 8 i_4 1)).bind fun r_5 => _)
      rw [dr_mk r1, Option.bind_some, r3, show oI (some k) = nI k from rfl, fc_thingOf_s hw hW (by omega), Option.bind_some]
      cases hth : sThing w k with
      | none => exact CDo.no hm
      | some x =>
        have hx := (sThing_lt hth).1
        refine CDo.neg (show ¬ oI (some x) = (-1 : Int32) from (jM1 (by omega)).mp) ?_
        show CDo σ i s _ ((fc_X3_isInReach σ (some i) (nI x) (bI (sLight w s))).bind fun r_6 => _)
        rw [fc_isInReach_s hw hW hs hm hx]
        simp only [Option.bind_some]
        show CDo σ i s (if sReach s (sLight w s) x then _ else none) _
        cases hre : sReach s (sLight w s) x with
        | false => exact CDo.no hm
        | true =>
          rw [if_neg (show ¬ bI true = (0 : Int32) by decide)]
          show CDo σ i s _ ((dr σ 8 (some c)).bind fun i_7 => (dv (cR σ 8 i_7 0)).bind fun i_8 => _)
          rw [dr_mk r1, Option.bind_some, r2, dv_mk hv, Option.bind_some, if_pos rfl]
          by_cases h9 : v = 9
          · subst h9
            obtain ⟨k2, hk2, rfl⟩ : ∃ k, k < 40 ∧ b = some k := by
              rcases hq with ⟨h, -⟩ | h | h | ⟨h, -⟩ | ⟨-, -, h⟩
              · simp only at h; omega
              · simp only at h; omega
              · simp only at h; omega
              · simp only at h; omega
              · exact h
            rw [if_pos rfl, if_neg (show ¬ vQ.getD 9 0 = (1 : Int32) by decide)]
            show CDo σ i s ((sThing w k2).bind _) ((fc_X10_thingOf σ (cI σ 8 c 2)).bind fun r_9 => _)
            rw [r4, show oI (some k2) = nI k2 from rfl, fc_thingOf_s hw hW (by omega), Option.bind_some]
            cases hth2 : sThing w k2 with
            | none => exact CDo.no hm
            | some y =>
              have hy := (sThing_lt hth2).1
              refine CDo.neg (show ¬ oI (some y) = (-1 : Int32) from (jM1 (by omega)).mp) ?_
              show CDo σ i s _ ((fc_X3_isInReach σ (some i) (nI y) (bI (sLight w s))).bind fun r_10 => _)
              rw [fc_isInReach_s hw hW hs hm hy]
              simp only [Option.bind_some]
              show CDo σ i s (if sReach s (sLight w s) y then _ else none) _
              cases hre2 : sReach s (sLight w s) y with
              | false => exact CDo.no hm
              | true =>
                rw [if_neg (show ¬ bI true = (0 : Int32) by decide)]
                obtain ⟨σ', t1, t2⟩ := fc_stow_s hw hW hs hm hx hy
                show CDo σ i s (sStow w s x y) ((fc_X3_stow σ (some i) (nI x) (nI y)).bind fun r_11 => _)
                rw [t1, Option.bind_some]
                refine ⟨σ', ?_, t2⟩
                cases sStow w s x y <;> rfl
          · rw [if_neg h9, if_pos (show vQ.getD v 0 = (1 : Int32) from vQ_1 (by omega))]
            exact (fc_handle_s hw hW hl hs hm hx (by omega)).back
end SL
