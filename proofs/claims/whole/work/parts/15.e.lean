/-! Exits, and the words shown: both sides. -/
/-- the room behind an exit that can be gone through -/
def sFree (w : Wd) (s : St) (i : Nat) : Option Nat := match w.lk i with
  | none => w.ex i
  | some q => if s.pl q = 100 then w.ex i else none
theorem oM1 {m : Option Nat} (hm : ∀ b, m = some b → b < 12) : oI m = -nI 1 ↔ m = none := by
  cases m with
  | none => exact iff_of_true rfl rfl
  | some b =>
    have := hm b rfl
    show nI b = -nI 1 ↔ _
    rw [jM1 (by omega)]
    simp
theorem ok_ex {w : Wd} (hw : Wd.ok w) {i b : Nat} (h : w.ex i = some b) : b < 12 := by
  have := hw.2.2.2.1 i b h
  have := hw.1.2.1
  omega
theorem ok_lk {w : Wd} (hw : Wd.ok w) {i b : Nat} (h : w.lk i = some b) : b < w.T := (hw.2.2.2.2.1 i b h).1
theorem fm_isFree_s {τ : mS} {w : Wd} {s : St} {r d : Nat} (hw : Wd.ok w) (hW : MWd τ w) (hs : St.ok w s) (hm : MSt τ w.T s) (hr : r < w.R) (hd : d < 6) : fm_isFree τ (nI r) (nI d) = some (bI (sFree w s (6 * r + d)).isSome, τ) := by
  have hT : w.T ≤ 12 := hw.1.2.2.1
  have hR := hw.1.2.1
  have x1 : ¬ 72 ≤ 6 * r + d := by omega
  have c1 : (nI (6 * r + d)).toNatClampNeg = 6 * r + d := jCl (by omega)
  obtain ⟨e7, e8⟩ := hW.2.2.2.2.1 (6 * r + d) (by omega)
  have m7 : oI (w.ex (6 * r + d)) = -nI 1 ↔ w.ex (6 * r + d) = none := oM1 fun b h => ok_ex hw h
  have m8 : oI (w.lk (6 * r + d)) = -nI 1 ↔ w.lk (6 * r + d) = none := oM1 fun b h => by have := ok_lk hw h; omega
  unfold fm_isFree fm_isFree_43 fm_isFree_47 fm_isFree_48 sFree
  simp (disch := omega) only [n0, n1, n6, n100, jMul, jAdd, x1, c1, e7, e8, jLt, jz0, jz1, Nat.not_lt_zero, false_or, if_false, if_true, m7, m8]
  cases hl : w.lk (6 * r + d) with
  | none => cases hx : w.ex (6 * r + d) <;> simp [bI]
  | some q =>
    have hq := ok_lk hw hl
    have y1 : ¬ 12 ≤ q := by omega
    have cq : (nI q).toNatClampNeg = q := jCl (by omega)
    obtain ⟨e36, -, -⟩ := hm.2 q hq
    have hp : s.pl q < 1000 := by obtain ⟨h1, -⟩ := hs.2.1 q hq; omega
    show (if w.ex (6 * r + d) = none then some (nI 0, τ) else if some q = none then some (nI 1, τ) else if nI q < nI 0 ∨ 12 ≤ (nI q).toNatClampNeg then none else if τ.2.2.1 36 (nI q).toNatClampNeg = nI 100 then some (nI 1, τ) else some (nI 0, τ)) = _
    simp (disch := omega) only [y1, cq, e36, jLt, jEq, Nat.not_lt_zero, false_or, if_false]
    cases hx : w.ex (6 * r + d) with
    | none => simp [bI]
    | some v => by_cases q3 : s.pl q = 100 <;> simp [q3, bI]
theorem fc_roomBehind_s {σ : cS} {w : Wd} {s : St} {r d i : Nat} (hw : Wd.ok w) (hW : CWd σ w) (hs : St.ok w s) (hm : RSt σ i s) (hr : r < 12) (hd : d < 6) : fc_X3_roomBehind σ (some i) (nI r) (nI d) = some (oI (sFree w s (6 * r + d)), σ) := by
  have hT : w.T ≤ 12 := hw.1.2.2.1
  have hR := hw.1.2.1
  obtain ⟨d1, d2, d3, d4⟩ := hm.cons
  have b3 : cln σ 12 (13 + 2 * i) = 12 := hm.2.1.2.2.1
  have x1 : ¬ 72 ≤ 6 * r + d := by omega
  have c1 : (nI (6 * r + d)).toNatClampNeg = 6 * r + d := jCl (by omega)
  obtain ⟨e7, e8⟩ := hW.2.2.2.2.1 (6 * r + d) (by omega)
  have m8 : oI (w.lk (6 * r + d)) = -nI 1 ↔ w.lk (6 * r + d) = none := oM1 fun b h => by have := ok_lk hw h; omega
  unfold fc_X3_roomBehind fc_X3_roomBehind_38 fc_X3_roomBehind_52 sFree
  rw [d1, Option.bind_some, d2, Option.bind_some]
  simp (disch := omega) only [n0, n1, n6, n100, b3, jMul, jAdd, Nat.mul_comm r 6, x1, c1, e7, e8, jLt, jz0, jz1, Nat.not_lt_zero, false_or, if_false, if_true, m8]
  cases hl : w.lk (6 * r + d) with
  | none => simp
  | some q =>
    have hq := ok_lk hw hl
    have y1 : ¬ 12 ≤ q := by omega
    have cq : (nI q).toNatClampNeg = q := jCl (by omega)
    obtain ⟨e36, -, -⟩ := hm.2.2.2 q (by omega)
    have hp : s.pl q < 1000 := by obtain ⟨h1, -⟩ := hs.2.1 q hq; omega
    show (if some q = none then some (oI (w.ex (6 * r + d)), σ) else if nI q < nI 0 ∨ 12 ≤ (nI q).toNatClampNeg then none else if cI σ 12 (13 + 2 * i) (nI q).toNatClampNeg = nI 100 then some (oI (w.ex (6 * r + d)), σ) else some (-nI 1, σ)) = _
    simp (disch := omega) only [y1, cq, e36, jLt, jEq, Nat.not_lt_zero, false_or, if_false]
    by_cases q3 : s.pl q = 100 <;> simp [q3, oI]
/-- a word's own set -/
def wbit (k : Nat) : Int64 := (1 : Int64) <<< ((nI k).toInt64 &&& 63)
def shF (w : Wd) (s : St) (li : Bool) (x d : Nat) (a : Int64) : Int64 := (List.range' x d).foldl (fun a y => if sReach s li y then a ||| wbit (w.noun y) else a) a
def sShown (w : Wd) (s : St) : Int64 := shF w s (sLight w s) 0 w.T (if sLight w s then w.rs s.rm else 0)
theorem shF_s (w : Wd) (s : St) (li : Bool) (x d : Nat) (a : Int64) : shF w s li x (d + 1) a = shF w s li (x + 1) d (if sReach s li x then a ||| wbit (w.noun x) else a) := by
  unfold shF
  rw [List.range'_succ, List.foldl_cons]
theorem shF_or (w : Wd) (s : St) (li : Bool) (b : Int64) : ∀ (d x : Nat) (a : Int64), shF w s li x d (b ||| a) = b ||| shF w s li x d a := by
  intro d
  induction d with
  | zero => intro x a; rfl
  | succ d ih =>
    intro x a
    rw [shF_s, shF_s, ← ih]
    split
    · rw [Int64.or_assoc]
    · rfl
theorem fm_showsNow_l {τ : mS} {w : Wd} {s : St} {li : Bool} (hw : Wd.ok w) (hW : MWd τ w) (hs : St.ok w s) (hm : MSt τ w.T s) : ∀ (d x : Nat) (a : Int64) (n : Nat), x + d = w.T → d < n → fm_showsNow_31 n τ (bI li) a (nI x) = some (shF w s li x d a, τ) := by
  have hT : w.T ≤ 12 := hw.1.2.2.1
  have eT := hW.1.2.2.1
  intro d
  induction d with
  | zero =>
    intro x a n hx hn
    obtain ⟨n, rfl⟩ : ∃ k, n = k + 1 := ⟨n - 1, by omega⟩
    have x1 : w.T ≤ x := by omega
    rw [fm_showsNow_31]
    simp (disch := omega) only [eT, jLe, x1, if_true]
    rfl
  | succ d ih =>
    intro x a n hx hn
    obtain ⟨n, rfl⟩ : ∃ k, n = k + 1 := ⟨n - 1, by omega⟩
    have x1 : ¬ w.T ≤ x := by omega
    have x2 : ¬ 12 ≤ x := by omega
    have c1 : (nI x).toNatClampNeg = x := jCl (by omega)
    obtain ⟨e10, -⟩ := hW.2.2.2.2.2.1 x (by omega)
    rw [fm_showsNow_31, shF_s, fm_isHeld_s hw hs hm (show x < w.T by omega), fm_isAtHand_s hw hs hm (show x < w.T by omega)]
    unfold fm_showsNow_66 fm_showsNow_78 fm_showsNow_79 sReach
    simp (disch := omega) only [n0, n1, eT, jLe, jLt, x1, x2, c1, e10, bI_0, Nat.not_lt_zero, false_or, if_false, if_true, Option.bind_some, jAdd, Int64.or_zero]
    rw [ih (x + 1) a n (by omega) (by omega), ih (x + 1) _ n (by omega) (by omega)]
    unfold wbit
    cases li <;> cases q2 : sHeld s x <;> cases q3 : sHand s x <;> simp
theorem fm_showsNow_s {τ : mS} {w : Wd} {s : St} (hw : Wd.ok w) (hW : MWd τ w) (hs : St.ok w s) (hm : MSt τ w.T s) : fm_showsNow τ = some (τ.2.1 39 ||| sShown w s, τ) := by
  have hT : w.T ≤ 12 := hw.1.2.2.1
  have hR := hw.1.2.1
  have hr := hs.1
  have c1 : (nI s.rm).toNatClampNeg = s.rm := jCl (by omega)
  have x2 : ¬ 12 ≤ s.rm := by omega
  have e6 := (hW.2.2.2.1 s.rm (by omega)).1
  unfold fm_showsNow fm_showsNow_26 sShown
  rw [fm_isBrightHere_s hw hW hs hm, Option.bind_some]
  simp (disch := omega) only [n0, hm.1, c1, x2, e6, jLt, bI_0, Nat.not_lt_zero, false_or, if_false]
  rw [show nI 0 = nI 0 from rfl, fm_showsNow_l hw hW hs hm w.T 0 _ 3000 (by omega) (by omega), fm_showsNow_l hw hW hs hm w.T 0 _ 3000 (by omega) (by omega), shF_or, shF_or]
  cases sLight w s <;> simp
theorem fc_wordsShown_l {σ : cS} {w : Wd} {s : St} {li : Bool} {i : Nat} (hw : Wd.ok w) (hW : CWd σ w) (hs : St.ok w s) (hm : RSt σ i s) : ∀ (d x : Nat) (a : Int64) (n : Nat), x + d = w.T → d < n → fc_X3_wordsShown_30 n σ (some i) (bI li) a (nI x) = some (shF w s li x d a, σ) := by
  have hT : w.T ≤ 12 := hw.1.2.2.1
  have eT := hW.1.2.2.1
  intro d
  induction d with
  | zero =>
    intro x a n hx hn
    obtain ⟨n, rfl⟩ : ∃ k, n = k + 1 := ⟨n - 1, by omega⟩
    have x1 : w.T ≤ x := by omega
    rw [fc_X3_wordsShown_30]
    simp (disch := omega) only [eT, jLe, x1, if_true]
    rfl
  | succ d ih =>
    intro x a n hx hn
    obtain ⟨n, rfl⟩ : ∃ k, n = k + 1 := ⟨n - 1, by omega⟩
    have x1 : ¬ w.T ≤ x := by omega
    have x2 : ¬ 12 ≤ x := by omega
    have c1 : (nI x).toNatClampNeg = x := jCl (by omega)
    obtain ⟨e10, -⟩ := hW.2.2.2.2.2.1 x (by omega)
    rw [fc_X3_wordsShown_30, shF_s, fc_isInReach_s hw hW hs hm (show x < w.T by omega), Option.bind_some]
    unfold fc_X3_wordsShown_68
    simp (disch := omega) only [n0, n1, eT, jLe, jLt, x1, x2, c1, e10, bI_0, Nat.not_lt_zero, false_or, if_false, if_true, Option.bind_some, jAdd, Int64.or_zero]
    rw [ih (x + 1) a n (by omega) (by omega), ih (x + 1) _ n (by omega) (by omega)]
    unfold wbit
    cases sReach s li x <;> simp
theorem fc_wordsShown_s {σ : cS} {w : Wd} {s : St} {i : Nat} (hw : Wd.ok w) (hW : CWd σ w) (hs : St.ok w s) (hm : RSt σ i s) : fc_X3_wordsShown σ (some i) = some (sShown w s, σ) := by
  have hT : w.T ≤ 12 := hw.1.2.2.1
  have hR := hw.1.2.1
  have hr := hs.1
  have c1 : (nI s.rm).toNatClampNeg = s.rm := jCl (by omega)
  have x2 : ¬ 12 ≤ s.rm := by omega
  have e6 := (hW.2.2.2.1 s.rm (by omega)).1
  unfold fc_X3_wordsShown fc_X3_wordsShown_26 sShown
  rw [fc_hasLight_s hw hW hs hm, Option.bind_some, hm.cons.1, Option.bind_some]
  simp (disch := omega) only [n0, hm.2.2.1, c1, x2, e6, jLt, bI_0, Nat.not_lt_zero, false_or, if_false]
  rw [fc_wordsShown_l hw hW hs hm w.T 0 _ 3000 (by omega) (by omega), fc_wordsShown_l hw hW hs hm w.T 0 _ 3000 (by omega) (by omega)]
  cases sLight w s <;> simp
