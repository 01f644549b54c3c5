/-! A command on a state, the reference's side. -/
def MDo (τ : mS) (w : Wd) (lk : Int64) (r : Option St) (f : Option (Int32 × mS)) : Prop := ∃ τ', f = some (bI r.isSome, τ') ∧ (∀ s', r = some s' → MSt τ' w.T s' ∧ τ'.2.1 39 = lk) ∧ mFr [35, 36, 37, 39] τ τ'
theorem MDo.no {τ : mS} {w : Wd} {lk : Int64} : MDo τ w lk none (some (nI 0, τ)) := ⟨τ, rfl, (fun s' h => by cases h), mFr.rf _ _⟩
theorem MSt.uPl {τ : mS} {T x v : Nat} {s : St} (h : MSt τ T s) : MSt (mA τ 36 x (nI v)) T (sPut s x v) := by
  refine ⟨h.1, fun y hy => ?_⟩
  obtain ⟨e1, e2, e3⟩ := h.2 y hy
  rw [mA_at, mA_ne _ _ _ (show (38 : Nat) ≠ 36 by decide), mA_ne _ _ _ (show (37 : Nat) ≠ 36 by decide)]
  refine ⟨?_, e2, e3⟩
  show _ = nI (if y = x then v else s.2.1 y)
  split
  · rfl
  · exact e1
theorem MSt.uOn {τ : mS} {T x : Nat} {b : Bool} {s : St} (h : MSt τ T s) : MSt (mA τ 37 x (bI b)) T (sOn s x b) := by
  refine ⟨h.1, fun y hy => ?_⟩
  obtain ⟨e1, e2, e3⟩ := h.2 y hy
  rw [mA_at, mA_ne _ _ _ (show (38 : Nat) ≠ 37 by decide), mA_ne _ _ _ (show (36 : Nat) ≠ 37 by decide)]
  refine ⟨e1, e2, ?_⟩
  show _ = bI (if y = x then b else s.2.2.2 y)
  split
  · rfl
  · exact e3
section SM
variable {τ : mS} {w : Wd} {s : St} {x b : Nat} {Z : Int32}
theorem fm_turn_s {v k : Nat} {u : Bool} (hw : Wd.ok w) (hW : MWd τ w) (hm : MSt τ w.T s) (hx : x < w.T) (hv : v < 1000) (hk : k < 1000) (h6 : v = 6 → s.fu x ≠ 0) (hf : s.fu x < 1000) : MDo τ w (τ.2.1 39) (sTurn w s x k u) (fm_canDo_286 τ (nI v) (nI x) (bI u) (nI k) (τ.2.2.1 13 x)) := by
  have hT : w.T ≤ 12 := hw.1.2.2.1
  obtain ⟨-, e38, e37⟩ := hm.2 x hx
  obtain ⟨-, -, -, e13, -⟩ := hW.2.2.2.2.2.1 x hx
  have hk2 : w.kind x < 1000 := by obtain ⟨-, -, -, -, h, -⟩ := hw.2.2.2.2.2.1 x hx; omega
  have c1 : (nI x).toNatClampNeg = x := jCl (by omega)
  have x1 : ¬ 12 ≤ x := by omega
  unfold fm_canDo_286 fm_canDo_315 fm_canDo_317 sTurn
  simp (disch := omega) only [n0, n1, n6, c1, x1, e13, e37, e38, bI_z, bI_inj, jEq, jLt, jz0, jz1, Nat.not_lt_zero, false_or, if_false, if_true]
  by_cases q : w.kind x = k
  · by_cases q2 : s.on x = u
    · simp only [q, q2, if_true, ne_eq, not_true, and_false, if_false]
      exact MDo.no
    · simp only [q, q2, if_true, ne_eq, not_false_eq_true, and_self, if_false]
      have fin : MDo τ w (τ.2.1 39) (some (sOn s x u)) (some (nI 1, mA τ 37 x (bI u))) := ⟨_, rfl, (fun s' h => by cases h; exact ⟨hm.uOn, rfl⟩), mFr.A (by decide)⟩
      by_cases q6 : v = 6
      · simp only [q6, h6 q6, if_true, if_false]
        exact fin
      · simp only [q6, if_false]
        exact fin
  · simp only [q, false_and, if_false]
    exact MDo.no
theorem fm_turn_no {k : Nat} {u : Bool} (hw : Wd.ok w) (hW : MWd τ w) (hm : MSt τ w.T s) (hx : x < w.T) (hk : k < 1000) (hf : s.fu x = 0) : fm_canDo_286 τ (nI 6) (nI x) (bI u) (nI k) (τ.2.2.1 13 x) = some (nI 0, τ) := by
  have hT : w.T ≤ 12 := hw.1.2.2.1
  obtain ⟨-, e38, e37⟩ := hm.2 x hx
  obtain ⟨-, -, -, e13, -⟩ := hW.2.2.2.2.2.1 x hx
  have hk2 : w.kind x < 1000 := by obtain ⟨-, -, -, -, h, -⟩ := hw.2.2.2.2.2.1 x hx; omega
  have c1 : (nI x).toNatClampNeg = x := jCl (by omega)
  have x1 : ¬ 12 ≤ x := by omega
  rw [hf] at e38
  unfold fm_canDo_286 fm_canDo_315
  simp (disch := omega) only [n0, n6, c1, x1, e13, e37, e38, bI_inj, jEq, jLt, jz0, Nat.not_lt_zero, false_or, if_false, if_true]
  by_cases q : w.kind x = k <;> by_cases q2 : s.on x = u <;> simp [q, q2] <;> rfl
theorem fm_canDo_one {v : Nat} (hw : Wd.ok w) (hW : MWd τ w) (hs : St.ok w s) (hm : MSt τ w.T s) (hx : x < w.T) (hv : 2 ≤ v ∧ v ≤ 8) : MDo τ w (if v = 8 then w.ts x else τ.2.1 39) (if sReach s (sLight w s) x then sOne w s v x else none) (fm_canDo τ (nI v) (nI x) Z) := by
  have hT : w.T ≤ 12 := hw.1.2.2.1
  have hR := hw.1.2.1
  have hr := hs.1
  obtain ⟨e36, e38, e37⟩ := hm.2 x hx
  obtain ⟨-, -, -, e13, -⟩ := hW.2.2.2.2.2.1 x hx
  have e15 := (hW.2.2.2.1 x (by omega)).2
  obtain ⟨h1, -, hf, -, -⟩ := hs.2.1 x hx
  have hp : s.pl x < 1000 := by omega
  have c1 : (nI x).toNatClampNeg = x := jCl (by omega)
  have x1 : ¬ 12 ≤ x := by omega
  have hle := sWeight_le hw s (some x)
  have hwt := fm_weightWith_s hw hW hs hm (m := some x) (fun b h => by cases h; omega)
  rw [show oI (some x) = nI x from rfl] at hwt
  unfold fm_canDo
  rw [fm_canReach_s hw hW hs hm hx]
  have hq : v = 2 ∨ v = 3 ∨ v = 4 ∨ v = 5 ∨ v = 6 ∨ v = 7 ∨ v = 8 := by omega
  have n8 : (8 : Int32) = nI 8 := rfl
  have n2 : (2 : Int32) = nI 2 := rfl
  have n3 : (3 : Int32) = nI 3 := rfl
  have n4 : (4 : Int32) = nI 4 := rfl
  have n9 : (9 : Int32) = nI 9 := rfl
  have n10 : (10 : Int32) = nI 10 := rfl
  have c0 : ∀ {r : Option St} {lk : Int64} {f : Option (Int32 × mS)}, MDo τ w lk r f → MDo τ w lk (if sReach s (sLight w s) x then r else none) (if bI (sReach s (sLight w s) x) = (0 : Int32) then fm_canDo_77 τ else f) := fun {r lk f} h => by
    cases sReach s (sLight w s) x with
    | false => exact MDo.no
    | true =>
      rw [if_neg (show ¬ bI true = (0 : Int32) by decide), if_pos rfl]
      exact h
  rcases hq with rfl | rfl | rfl | rfl | rfl | rfl | rfl
  · rw [if_neg (show ¬ nI 2 = (1 : Int32) by decide), if_pos (show nI 2 < (10 : Int32) by decide), if_neg (show ¬ nI x < (0 : Int32) from nI_pos (by omega)), Option.bind_some, if_neg (show ¬ nI 2 = (8 : Int32) by decide), if_pos (show nI 2 = (2 : Int32) by decide)]
    refine c0 ?_
    unfold fm_canDo_123
    show MDo τ w (τ.2.1 39) (sTake w s x) _
    unfold sTake
    simp (disch := omega) only [n0, n1, n12, n100, jEq, jLt, jLe, Option.bind_some, c1, x1, e36, hwt, jz0, jz1, Nat.not_lt_zero, false_or, if_true, if_false]
    by_cases q : s.pl x = 100
    · simp only [q, if_true, true_or]
      exact MDo.no
    · by_cases q2 : sWeight w s (some x) ≤ 12
      · have q3 : ¬ 12 < sWeight w s (some x) := by omega
        simp only [q, q2, q3, if_true, if_false, or_self]
        exact ⟨_, rfl, (fun s' h => by cases h; exact ⟨hm.uPl, rfl⟩), mFr.A (by decide)⟩
      · have q3 : 12 < sWeight w s (some x) := by omega
        simp only [q, q2, q3, if_true, if_false, or_true]
        exact MDo.no
  · rw [if_neg (show ¬ nI 3 = (1 : Int32) by decide), if_pos (show nI 3 < (10 : Int32) by decide), if_neg (show ¬ nI x < (0 : Int32) from nI_pos (by omega)), Option.bind_some, if_neg (show ¬ nI 3 = (8 : Int32) by decide), if_neg (show ¬ nI 3 = (2 : Int32) by decide), if_pos (show nI 3 = (3 : Int32) by decide)]
    refine c0 ?_
    show MDo τ w (τ.2.1 39) (sDrop s x) _
    unfold sDrop
    simp (disch := omega) only [n0, n1, n100, jEq, jLt, c1, x1, e36, hm.1, jz0, jz1, Nat.not_lt_zero, false_or, if_true, if_false]
    by_cases q : s.pl x = 100
    · simp only [q, if_true]
      exact ⟨_, rfl, (fun s' h => by cases h; exact ⟨hm.uPl, rfl⟩), mFr.A (by decide)⟩
    · simp only [q, if_false]
      exact MDo.no
  · rw [if_neg (show ¬ nI 4 = (1 : Int32) by decide), if_pos (show nI 4 < (10 : Int32) by decide), if_neg (show ¬ nI x < (0 : Int32) from nI_pos (by omega)), Option.bind_some, if_neg (show ¬ nI 4 = (8 : Int32) by decide), if_neg (show ¬ nI 4 = (2 : Int32) by decide), if_neg (show ¬ nI 4 = (3 : Int32) by decide), if_neg (show ¬ nI 4 = (9 : Int32) by decide), if_pos (show nI 4 = (4 : Int32) by decide)]
    refine c0 ?_
    unfold fm_canDo_260
    unfold fm_canDo_265
    rw [if_neg (show ¬ (nI x < 0 ∨ 12 ≤ (nI x).toNatClampNeg) from nI_in (by omega) (by omega)), if_neg (show ¬ (6 : Int32) ≤ nI 4 by decide)]
    rw [c1]
    exact fm_turn_s (v := 4) (k := 98) (u := true) hw hW hm hx (by omega) (by omega) (fun h => by omega) (by omega)
  · rw [if_neg (show ¬ nI 5 = (1 : Int32) by decide), if_pos (show nI 5 < (10 : Int32) by decide), if_neg (show ¬ nI x < (0 : Int32) from nI_pos (by omega)), Option.bind_some, if_neg (show ¬ nI 5 = (8 : Int32) by decide), if_neg (show ¬ nI 5 = (2 : Int32) by decide), if_neg (show ¬ nI 5 = (3 : Int32) by decide), if_neg (show ¬ nI 5 = (9 : Int32) by decide), if_neg (show ¬ nI 5 = (4 : Int32) by decide), if_neg (show ¬ nI 5 = (6 : Int32) by decide)]
    refine c0 ?_
    unfold fm_canDo_265
    rw [if_neg (show ¬ (nI x < 0 ∨ 12 ≤ (nI x).toNatClampNeg) from nI_in (by omega) (by omega)), if_neg (show ¬ (6 : Int32) ≤ nI 5 by decide)]
    rw [c1]
    exact fm_turn_s (v := 5) (k := 98) (u := false) hw hW hm hx (by omega) (by omega) (fun h => by omega) (by omega)
  · rw [if_neg (show ¬ nI 6 = (1 : Int32) by decide), if_pos (show nI 6 < (10 : Int32) by decide), if_neg (show ¬ nI x < (0 : Int32) from nI_pos (by omega)), Option.bind_some, if_neg (show ¬ nI 6 = (8 : Int32) by decide), if_neg (show ¬ nI 6 = (2 : Int32) by decide), if_neg (show ¬ nI 6 = (3 : Int32) by decide), if_neg (show ¬ nI 6 = (9 : Int32) by decide), if_neg (show ¬ nI 6 = (4 : Int32) by decide), if_pos (show nI 6 = (6 : Int32) by decide)]
    refine c0 ?_
    unfold fm_canDo_260
    unfold fm_canDo_265
    rw [if_neg (show ¬ (nI x < 0 ∨ 12 ≤ (nI x).toNatClampNeg) from nI_in (by omega) (by omega)), if_pos (show (6 : Int32) ≤ nI 6 by decide)]
    rw [c1]
    show MDo τ w (τ.2.1 39) (if s.fu x = 0 then none else sTurn w s x 108 true) _
    by_cases q : s.fu x = 0
    · rw [if_pos q]
      have h := fm_turn_no (k := 108) (u := true) hw hW hm hx (by omega) q
      refine (show MDo τ w (τ.2.1 39) none (fm_canDo_286 τ (nI 6) (nI x) (bI true) (nI 108) (τ.2.2.1 13 x)) from ?_)
      rw [h]
      exact MDo.no
    · rw [if_neg q]
      exact fm_turn_s (v := 6) (k := 108) (u := true) hw hW hm hx (by omega) (by omega) (fun _ => q) (by omega)
  · rw [if_neg (show ¬ nI 7 = (1 : Int32) by decide), if_pos (show nI 7 < (10 : Int32) by decide), if_neg (show ¬ nI x < (0 : Int32) from nI_pos (by omega)), Option.bind_some, if_neg (show ¬ nI 7 = (8 : Int32) by decide), if_neg (show ¬ nI 7 = (2 : Int32) by decide), if_neg (show ¬ nI 7 = (3 : Int32) by decide), if_neg (show ¬ nI 7 = (9 : Int32) by decide), if_neg (show ¬ nI 7 = (4 : Int32) by decide), if_neg (show ¬ nI 7 = (6 : Int32) by decide)]
    refine c0 ?_
    unfold fm_canDo_265
    rw [if_neg (show ¬ (nI x < 0 ∨ 12 ≤ (nI x).toNatClampNeg) from nI_in (by omega) (by omega)), if_pos (show (6 : Int32) ≤ nI 7 by decide)]
    rw [c1]
    exact fm_turn_s (v := 7) (k := 108) (u := false) hw hW hm hx (by omega) (by omega) (fun h => by omega) (by omega)
  · rw [if_neg (show ¬ nI 8 = (1 : Int32) by decide), if_pos (show nI 8 < (10 : Int32) by decide), if_neg (show ¬ nI x < (0 : Int32) from nI_pos (by omega)), Option.bind_some, if_pos (show nI 8 = (8 : Int32) by decide)]
    refine c0 ?_
    rw [if_neg (show ¬ (nI x < 0 ∨ 12 ≤ (nI x).toNatClampNeg) from nI_in (by omega) (by omega)), if_pos (show (1 : Int32) &&& 1 = 1 by decide)]
    refine ⟨_, rfl, (fun s' h => ?_), mFr.J (by decide)⟩
    cases h
    refine ⟨hm, ?_⟩
    rw [c1, e15]
    rfl
theorem fm_canDo_put {lk : Int64} (hw : Wd.ok w) (hW : MWd τ w) (hs : St.ok w s) (hm : MSt τ w.T s) (hx : x < w.T) (hb : b < w.T) (hlk : τ.2.1 39 = lk) : MDo τ w lk (if sReach s (sLight w s) x then (if sReach s (sLight w s) b then sStow w s x b else none) else none) (fm_canDo τ (nI 9) (nI x) (nI b)) := by
  have hT : w.T ≤ 12 := hw.1.2.2.1
  have hR := hw.1.2.1
  obtain ⟨e36, -, -⟩ := hm.2 x hx
  obtain ⟨-, -, f37⟩ := hm.2 b hb
  obtain ⟨-, -, -, e13, -⟩ := hW.2.2.2.2.2.1 x hx
  obtain ⟨-, -, -, f13, -⟩ := hW.2.2.2.2.2.1 b hb
  obtain ⟨h1, -, -, -, -⟩ := hs.2.1 x hx
  have hp : s.pl x < 1000 := by omega
  have hk2 : w.kind x < 1000 := by obtain ⟨-, -, -, -, h, -⟩ := hw.2.2.2.2.2.1 x hx; omega
  have hk3 : w.kind b < 1000 := by obtain ⟨-, -, -, -, h, -⟩ := hw.2.2.2.2.2.1 b hb; omega
  have c1 : (nI x).toNatClampNeg = x := jCl (by omega)
  have x1 : ¬ 12 ≤ x := by omega
  have c2 : (nI b).toNatClampNeg = b := jCl (by omega)
  have x2 : ¬ 12 ≤ b := by omega
  have hc : sCount w s b < 100000 := by
    have h := sumR_le (f := fun x => if s.pl x = 200 + b then 1 else 0) (B := 1) w.T 0 fun y _ _ => by
      show (if s.pl y = 200 + b then 1 else 0) ≤ 1
      split <;> omega
    unfold sCount
    omega
  unfold fm_canDo
  rw [fm_canReach_s hw hW hs hm hx]
  rw [if_neg (show ¬ nI 9 = (1 : Int32) by decide), if_pos (show nI 9 < (10 : Int32) by decide), if_neg (show ¬ nI x < (0 : Int32) from nI_pos (by omega)), Option.bind_some, if_neg (show ¬ nI 9 = (8 : Int32) by decide), if_neg (show ¬ nI 9 = (2 : Int32) by decide), if_neg (show ¬ nI 9 = (3 : Int32) by decide), if_pos (show nI 9 = (9 : Int32) by decide), if_neg (show ¬ nI b < (0 : Int32) from nI_pos (by omega))]
  cases hre : sReach s (sLight w s) x with
  | false => exact MDo.no
  | true =>
    rw [if_neg (show ¬ bI true = (0 : Int32) by decide), if_pos rfl]
    show MDo τ w lk _ ((fm_canReach τ (nI b)).bind fun r_2 => _)
    rw [fm_canReach_s hw hW hs hm hb, Option.bind_some]
    cases hre2 : sReach s (sLight w s) b with
    | false => exact MDo.no
    | true =>
      rw [if_neg (show ¬ bI true = (0 : Int32) by decide), if_pos rfl]
      unfold fm_canDo_234 sStow
      simp only [fm_inBox_s hw hW hs hm (show b < 1000 by omega)]
      simp (disch := omega) only [n0, n1, n98, n100, n200, show (2 : Int32) = nI 2 from rfl, Option.bind_some, c1, x1, c2, x2, e36, e13, f13, f37, bI_0, jEq, jLt, jLe, jAdd, jz0, jz1, Nat.not_lt_zero, false_or, if_false, if_true]
      by_cases q1 : s.pl x = 100 <;> by_cases q2 : w.kind x = 98 <;> by_cases q3 : w.kind b = 98 <;> cases q4 : s.on b <;> by_cases q5 : sCount w s b ≤ 2 <;> simp only [q1, q2, q3, q5, if_true, if_false, not_true, not_false_eq_true, ne_eq, and_true, true_and, and_self, and_false, false_and, Bool.false_eq_true, Bool.true_eq_false] <;> first | exact MDo.no | exact ⟨_, rfl, (fun s' h => by cases h; exact ⟨hm.uPl, hlk⟩), mFr.A (by decide)⟩
end SM
