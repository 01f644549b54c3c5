/-! Sums over things: both sides. -/
def sumR (x d : Nat) (f : Nat → Nat) : Nat := ((List.range' x d).map f).sum
theorem sumR_0 (x : Nat) (f : Nat → Nat) : sumR x 0 f = 0 := rfl
theorem sumR_s (x d : Nat) (f : Nat → Nat) : sumR x (d + 1) f = f x + sumR (x + 1) d f := by
  unfold sumR
  rw [List.range'_succ, List.map_cons, List.sum_cons]
theorem sumR_le {f : Nat → Nat} {B : Nat} : ∀ (d x : Nat), (∀ y, x ≤ y → y < x + d → f y ≤ B) → sumR x d f ≤ d * B := by
  intro d
  induction d with
  | zero => intro x h; simp [sumR_0]
  | succ d ih =>
    intro x h
    rw [sumR_s, Nat.succ_mul]
    have h1 := h x (Nat.le_refl _) (by omega)
    have h2 := ih (x + 1) (fun y h3 h4 => h y (by omega) (by omega))
    omega
theorem sumR_congr {f g : Nat → Nat} : ∀ (d x : Nat), (∀ y, x ≤ y → y < x + d → f y = g y) → sumR x d f = sumR x d g := by
  intro d
  induction d with
  | zero => intro x h; rfl
  | succ d ih =>
    intro x h
    rw [sumR_s, sumR_s, h x (Nat.le_refl _) (by omega), ih (x + 1) (fun y h3 h4 => h y (by omega) (by omega))]
def sCount (w : Wd) (s : St) (b : Nat) : Nat := sumR 0 w.T fun x => if s.pl x = 200 + b then 1 else 0
theorem fm_inBox_l {τ : mS} {w : Wd} {s : St} {b : Nat} (hw : Wd.ok w) (hW : MWd τ w) (hs : St.ok w s) (hm : MSt τ w.T s) (hb : b < 1000) : ∀ (d x a n : Nat), x + d = w.T → d < n → fm_inBox_4 n τ (nI b) (nI a) (nI x) = some (nI (a + sumR x d fun x => if s.pl x = 200 + b then 1 else 0), τ) := by
  have hT : w.T ≤ 12 := hw.1.2.2.1
  have hR := hw.1.2.1
  have eT := hW.1.2.2.1
  intro d
  induction d with
  | zero =>
    intro x a n hx hn
    obtain ⟨n, rfl⟩ : ∃ k, n = k + 1 := ⟨n - 1, by omega⟩
    have x1 : w.T ≤ x := by omega
    rw [fm_inBox_4]
    simp (disch := omega) only [eT, jLe, x1, if_true, sumR_0, Nat.add_zero]
  | succ d ih =>
    intro x a n hx hn
    obtain ⟨n, rfl⟩ : ∃ k, n = k + 1 := ⟨n - 1, by omega⟩
    have x1 : ¬ w.T ≤ x := by omega
    have x2 : ¬ 12 ≤ x := by omega
    have c1 : (nI x).toNatClampNeg = x := jCl (by omega)
    obtain ⟨e36, -, -⟩ := hm.2 x (by omega)
    have hp : s.pl x < 1000 := by obtain ⟨h1, -⟩ := hs.2.1 x (by omega); omega
    rw [fm_inBox_4, sumR_s]
    unfold fm_inBox_32
    simp (disch := omega) only [n0, n1, n200, eT, jLe, jEq, jLt, x1, x2, c1, e36, Nat.not_lt_zero, false_or, if_false, jAdd]
    rw [ih (x + 1) (a + 0) n (by omega) (by omega), ih (x + 1) (a + 1) n (by omega) (by omega)]
    by_cases q : s.pl x = 200 + b <;> simp [q, Nat.add_assoc]
theorem fm_inBox_s {τ : mS} {w : Wd} {s : St} {b : Nat} (hw : Wd.ok w) (hW : MWd τ w) (hs : St.ok w s) (hm : MSt τ w.T s) (hb : b < 1000) : fm_inBox τ (nI b) = some (nI (sCount w s b), τ) := by
  have h := fm_inBox_l hw hW hs hm hb w.T 0 0 3000 (by omega) (by have := hw.1.2.2.1; omega)
  rw [Nat.zero_add] at h
  exact h
theorem fc_countIn_l {σ : cS} {w : Wd} {s : St} {b i : Nat} (hw : Wd.ok w) (hW : CWd σ w) (hs : St.ok w s) (hm : RSt σ i s) (hb : b < 1000) : ∀ (d x a n : Nat), x + d = w.T → d < n → fc_X3_countIn_5 n σ (some i) (nI b) (nI a) (nI x) = some (nI (a + sumR x d fun x => if s.pl x = 200 + b then 1 else 0), σ) := by
  have hT : w.T ≤ 12 := hw.1.2.2.1
  have hR := hw.1.2.1
  have eT := hW.1.2.2.1
  obtain ⟨d1, d2, d3, d4⟩ := hm.cons
  have b3 : cln σ 12 (13 + 2 * i) = 12 := hm.2.1.2.2.1
  intro d
  induction d with
  | zero =>
    intro x a n hx hn
    obtain ⟨n, rfl⟩ : ∃ k, n = k + 1 := ⟨n - 1, by omega⟩
    have x1 : w.T ≤ x := by omega
    rw [fc_X3_countIn_5]
    simp (disch := omega) only [eT, jLe, x1, if_true, sumR_0, Nat.add_zero]
  | succ d ih =>
    intro x a n hx hn
    obtain ⟨n, rfl⟩ : ∃ k, n = k + 1 := ⟨n - 1, by omega⟩
    have x1 : ¬ w.T ≤ x := by omega
    have x2 : ¬ 12 ≤ x := by omega
    have c1 : (nI x).toNatClampNeg = x := jCl (by omega)
    obtain ⟨e36, -, -⟩ := hm.2.2.2 x (by omega)
    have hp : s.pl x < 1000 := by obtain ⟨h1, -⟩ := hs.2.1 x (by omega); omega
    rw [fc_X3_countIn_5, sumR_s, d1, Option.bind_some, d2, Option.bind_some]
    unfold fc_X3_countIn_35
    simp (disch := omega) only [n0, n1, n200, b3, eT, jLe, jEq, jLt, x1, x2, c1, e36, Nat.not_lt_zero, false_or, if_false, jAdd]
    rw [ih (x + 1) a n (by omega) (by omega), ih (x + 1) (a + 1) n (by omega) (by omega)]
    by_cases q : s.pl x = 200 + b <;> simp [q, Nat.add_assoc]
theorem fc_countIn_s {σ : cS} {w : Wd} {s : St} {b i : Nat} (hw : Wd.ok w) (hW : CWd σ w) (hs : St.ok w s) (hm : RSt σ i s) (hb : b < 1000) : fc_X3_countIn σ (some i) (nI b) = some (nI (sCount w s b), σ) := by
  have h := fc_countIn_l hw hW hs hm hb w.T 0 0 3000 (by omega) (by have := hw.1.2.2.1; omega)
  rw [Nat.zero_add] at h
  exact h
/-- whether a thing counts for the weight, more being one that would be carried -/
def sIncl (s : St) (m : Option Nat) (x : Nat) : Bool := let y := if 200 ≤ s.pl x ∧ m ≠ some x then s.pl x - 200 else x; decide (m = some y) || decide (s.pl y = 100)
def sWeight (w : Wd) (s : St) (m : Option Nat) : Nat := sumR 0 w.T fun x => if sIncl s m x then w.wei x else 0
theorem oEq {a : Nat} {m : Option Nat} (ha : a < 100000) (hm : ∀ b, m = some b → b < 12) : nI a = oI m ↔ m = some a := by
  cases m with
  | none => exact ⟨fun h => ((jM1 ha).mp h).elim, fun h => by cases h⟩
  | some b =>
    have := hm b rfl
    show nI a = nI b ↔ _
    rw [jEq ha (by omega)]
    exact ⟨fun h => by rw [h], fun h => (Option.some.inj h).symm⟩
theorem fm_weightWith_l {τ : mS} {w : Wd} {s : St} {m : Option Nat} (hw : Wd.ok w) (hW : MWd τ w) (hs : St.ok w s) (hm : MSt τ w.T s) (hm0 : ∀ b, m = some b → b < 12) : ∀ (d x a n : Nat), x + d = w.T → d < n → fm_weightWith_4 n τ (oI m) (nI a) (nI x) = some (nI (a + sumR x d fun x => if sIncl s m x then w.wei x else 0), τ) := by
  have hT : w.T ≤ 12 := hw.1.2.2.1
  have hR := hw.1.2.1
  have eT := hW.1.2.2.1
  intro d
  induction d with
  | zero =>
    intro x a n hx hn
    obtain ⟨n, rfl⟩ : ∃ k, n = k + 1 := ⟨n - 1, by omega⟩
    have x1 : w.T ≤ x := by omega
    rw [fm_weightWith_4]
    simp (disch := omega) only [eT, jLe, x1, if_true, sumR_0, Nat.add_zero]
  | succ d ih =>
    intro x a n hx hn
    obtain ⟨n, rfl⟩ : ∃ k, n = k + 1 := ⟨n - 1, by omega⟩
    have x1 : ¬ w.T ≤ x := by omega
    have x2 : ¬ 12 ≤ x := by omega
    have c1 : (nI x).toNatClampNeg = x := jCl (by omega)
    obtain ⟨e36, -, -⟩ := hm.2 x (by omega)
    obtain ⟨-, -, e12, -, -⟩ := hW.2.2.2.2.2.1 x (by omega)
    obtain ⟨h1, -⟩ := hs.2.1 x (by omega)
    have hp : s.pl x < 1000 := by omega
    rw [fm_weightWith_4, sumR_s]
    have k64 : fm_weightWith_64 (fm_weightWith_4 n) τ (oI m) (nI x) (nI a) = fm_weightWith_4 n τ (oI m) (nI (a + w.wei x)) (nI (x + 1)) := by
      unfold fm_weightWith_64 fm_weightWith_74
      simp (disch := omega) only [n0, n1, x2, c1, e12, jLt, Nat.not_lt_zero, false_or, if_false, jAdd]
    have k43 : ∀ y, y < w.T → fm_weightWith_43 (fm_weightWith_4 n) τ (oI m) (nI a) (nI x) (nI y) = fm_weightWith_4 n τ (oI m) (nI (a + if (decide (m = some y) || decide (s.pl y = 100)) = true then w.wei x else 0)) (nI (x + 1)) := fun y hy => by
      have y2 : ¬ 12 ≤ y := by omega
      have cy : (nI y).toNatClampNeg = y := jCl (by omega)
      obtain ⟨f36, -, -⟩ := hm.2 y hy
      have hpy : s.pl y < 1000 := by obtain ⟨h1, -⟩ := hs.2.1 y hy; omega
      unfold fm_weightWith_43
      rw [k64]
      unfold fm_weightWith_74
      simp (disch := first | omega | assumption) only [n0, n1, n100, oEq, jEq, y2, cy, f36, jLt, Nat.not_lt_zero, false_or, if_false, jAdd]
      by_cases q : m = some y <;> by_cases q2 : s.pl y = 100 <;> simp [q, q2]
    unfold fm_weightWith_42
    rw [k43 x (by omega)]
    simp (disch := first | omega | assumption) only [n0, n200, eT, jLe, oEq, jLt, x1, x2, c1, e36, Nat.not_lt_zero, false_or, if_false]
    by_cases q : 200 ≤ s.pl x
    · rw [show nI (s.pl x) - nI 200 = nI (s.pl x - 200) from jSub q, k43 _ (by omega)]
      have q1 : ¬ s.pl x < 200 := by omega
      simp only [q1, if_false]
      by_cases q2 : m = some x
      · have hI : sIncl s m x = (decide (m = some x) || decide (s.pl x = 100)) := by unfold sIncl; simp [q2]
        rw [if_pos q2, ih _ _ _ (by omega) (by omega), hI, Nat.add_assoc]
      · have hI : sIncl s m x = (decide (m = some (s.pl x - 200)) || decide (s.pl (s.pl x - 200) = 100)) := by unfold sIncl; simp [q, q2]
        rw [if_neg q2, ih _ _ _ (by omega) (by omega), hI, Nat.add_assoc]
    · have q1 : s.pl x < 200 := by omega
      have hI : sIncl s m x = (decide (m = some x) || decide (s.pl x = 100)) := by unfold sIncl; simp [q]
      rw [if_pos q1, ih _ _ _ (by omega) (by omega), hI, Nat.add_assoc]
theorem fm_weightWith_s {τ : mS} {w : Wd} {s : St} {m : Option Nat} (hw : Wd.ok w) (hW : MWd τ w) (hs : St.ok w s) (hm : MSt τ w.T s) (hm0 : ∀ b, m = some b → b < 12) : fm_weightWith τ (oI m) = some (nI (sWeight w s m), τ) := by
  have h := fm_weightWith_l hw hW hs hm hm0 w.T 0 0 3000 (by omega) (by have := hw.1.2.2.1; omega)
  rw [Nat.zero_add] at h
  exact h
theorem fc_hasThing_s {σ : cS} {w : Wd} {x : Nat} (hT : w.T ≤ 12) (hW : CWd σ w) (hx : x < 100000) : fc_X10_hasThing σ (nI x) = some (bI (decide (x < w.T)), σ) := by
  have eT := hW.1.2.2.1
  unfold fc_X10_hasThing fc_X10_hasThing_16 fc_X10_hasThing_17
  simp (disch := omega) only [n0, n1, eT, jLt, jLe, jz0, jz1, if_true, Nat.not_lt_zero, if_false]
  by_cases q : x < w.T
  · have q1 : ¬ w.T ≤ x := by omega
    simp [q, q1, bI]
  · have q1 : w.T ≤ x := by omega
    simp [q, q1, bI]
theorem fc_hasThing_n {σ : cS} {v : Int32} (h : v < nI 0) : fc_X10_hasThing σ v = some (bI false, σ) := by
  unfold fc_X10_hasThing fc_X10_hasThing_16 fc_X10_hasThing_17
  rw [if_pos (show v < 0 from h)]
  rfl
theorem fc_carriedWeight_l {σ : cS} {w : Wd} {s : St} {i : Nat} (hw : Wd.ok w) (hW : CWd σ w) (hs : St.ok w s) (hm : RSt σ i s) : ∀ (d x a n : Nat), x + d = w.T → d < n → fc_X3_carriedWeight_4 n σ (some i) (nI a) (nI x) = some (nI (a + sumR x d fun x => if sIncl s none x then w.wei x else 0), σ) := by
  have hT : w.T ≤ 12 := hw.1.2.2.1
  have hR := hw.1.2.1
  have eT := hW.1.2.2.1
  obtain ⟨d1, d2, d3, d4⟩ := hm.cons
  have b3 : cln σ 12 (13 + 2 * i) = 12 := hm.2.1.2.2.1
  intro d
  induction d with
  | zero =>
    intro x a n hx hn
    obtain ⟨n, rfl⟩ : ∃ k, n = k + 1 := ⟨n - 1, by omega⟩
    have x1 : w.T ≤ x := by omega
    rw [fc_X3_carriedWeight_4]
    simp (disch := omega) only [eT, jLe, x1, if_true, sumR_0, Nat.add_zero]
  | succ d ih =>
    intro x a n hx hn
    obtain ⟨n, rfl⟩ : ∃ k, n = k + 1 := ⟨n - 1, by omega⟩
    have x1 : ¬ w.T ≤ x := by omega
    have x2 : ¬ 12 ≤ x := by omega
    have c1 : (nI x).toNatClampNeg = x := jCl (by omega)
    obtain ⟨e36, -, -⟩ := hm.2.2.2 x (by omega)
    obtain ⟨-, e12, -⟩ := hW.2.2.2.2.2.1 x (by omega)
    obtain ⟨h1, -⟩ := hs.2.1 x (by omega)
    have hp : s.pl x < 1000 := by omega
    rw [fc_X3_carriedWeight_4, sumR_s, d1, Option.bind_some, d2, Option.bind_some]
    have k49 : ∀ y, y < w.T → fc_X3_carriedWeight_49 (fc_X3_carriedWeight_4 n) σ (some i) (nI a) (nI x) (nI y) (cR σ 6 i 1) = fc_X3_carriedWeight_4 n σ (some i) (nI (a + if decide (s.pl y = 100) = true then w.wei x else 0)) (nI (x + 1)) := fun y hy => by
      have y2 : ¬ 12 ≤ y := by omega
      have cy : (nI y).toNatClampNeg = y := jCl (by omega)
      obtain ⟨f36, -, -⟩ := hm.2.2.2 y (by omega)
      have hpy : s.pl y < 1000 := by obtain ⟨h1, -⟩ := hs.2.1 y hy; omega
      unfold fc_X3_carriedWeight_49 fc_X3_carriedWeight_67
      rw [d2, Option.bind_some]
      simp (disch := omega) only [n0, n1, n100, b3, jEq, x2, c1, y2, cy, f36, e12, jLt, Nat.not_lt_zero, false_or, if_false, jAdd]
      by_cases q2 : s.pl y = 100 <;> simp [q2]
    simp (disch := omega) only [n0, n200, b3, eT, jLe, jLt, x1, x2, c1, e36, Nat.not_lt_zero, false_or, if_false]
    by_cases q : 200 ≤ s.pl x
    · have hI : sIncl s none x = decide (s.pl (s.pl x - 200) = 100) := by unfold sIncl; simp [q]
      have q3 : s.pl x - 200 < w.T := by omega
      rw [show nI (s.pl x) - nI 200 = nI (s.pl x - 200) from jSub q, fc_hasThing_s hT hW (by omega), Option.bind_some]
      simp only [q3, decide_true, bI_0, Bool.true_eq_false, if_false]
      rw [k49 _ q3, ih _ _ _ (by omega) (by omega), hI, Nat.add_assoc]
    · have hI : sIncl s none x = decide (s.pl x = 100) := by unfold sIncl; simp [q]
      rw [fc_hasThing_n (jNeg (by omega) (by omega)), Option.bind_some]
      simp only [bI_0, if_true]
      rw [k49 _ (by omega), ih _ _ _ (by omega) (by omega), hI, Nat.add_assoc]
theorem fc_carriedWeight_s {σ : cS} {w : Wd} {s : St} {i : Nat} (hw : Wd.ok w) (hW : CWd σ w) (hs : St.ok w s) (hm : RSt σ i s) : fc_X3_carriedWeight σ (some i) = some (nI (sWeight w s none), σ) := by
  have h := fc_carriedWeight_l hw hW hs hm w.T 0 0 3000 (by omega) (by have := hw.1.2.2.1; omega)
  rw [Nat.zero_add] at h
  exact h
/-- a thing that is at another place -/
def sPut (s : St) (x p : Nat) : St := (s.1, (fun y => if y = x then p else s.2.1 y), s.2.2)
theorem sIncl_put {s : St} {x : Nat} (y : Nat) : sIncl (sPut s x 100) none y = sIncl s (some x) y := by
  unfold sIncl sPut St.pl
  by_cases q : y = x
  · subst q
    simp
  · have q' : ¬ x = y := fun h => q h.symm
    by_cases q2 : 200 ≤ s.2.1 y
    · by_cases q3 : s.2.1 y - 200 = x
      · simp [q, q', q2, q3]
      · have q3' : ¬ x = s.2.1 y - 200 := fun h => q3 h.symm
        simp [q, q', q2, q3, q3']
    · simp [q, q', q2]
theorem sWeight_put (w : Wd) (s : St) (x : Nat) : sWeight w (sPut s x 100) none = sWeight w s (some x) := by
  unfold sWeight
  exact sumR_congr _ _ fun y _ _ => by rw [sIncl_put]
theorem sWeight_le {w : Wd} (hw : Wd.ok w) (s : St) (m : Option Nat) : sWeight w s m ≤ 108 := by
  have h := sumR_le (f := fun x => if sIncl s m x then w.wei x else 0) (B := 9) w.T 0 fun y _ h => by
    obtain ⟨-, -, -, h9, -⟩ := hw.2.2.2.2.2.1 y (by omega)
    show (if sIncl s m y then w.wei y else 0) ≤ 9
    split
    · exact h9
    · omega
  have := hw.1.2.2.1
  unfold sWeight
  omega
