/-! The turn goes by: lamps burn, on both sides. -/
def sBrn (w : Wd) (s : St) (x : Nat) : Bool := decide (w.kind x = 108) && s.on x
def sBurnTo (w : Wd) (s : St) (k : Nat) : St := (s.1, s.2.1, (fun x => if x < k ∧ sBrn w s x = true then s.2.2.1 x - 1 else s.2.2.1 x), fun x => if x < k ∧ sBrn w s x = true then decide (1 < s.2.2.1 x) else s.2.2.2 x)
def sBurn (w : Wd) (s : St) : St := sBurnTo w s w.T
theorem sBurnTo_0 (w : Wd) (s : St) : sBurnTo w s 0 = s := by
  unfold sBurnTo
  simp
theorem sBurnTo_ne (w : Wd) (s : St) {k x : Nat} (h : x ≠ k) : (sBurnTo w s (k + 1)).fu x = (sBurnTo w s k).fu x ∧ (sBurnTo w s (k + 1)).on x = (sBurnTo w s k).on x := by
  have e : (x < k + 1) ↔ x < k := by omega
  unfold sBurnTo St.fu St.on
  simp only [e, and_self]
theorem sBurnTo_off (w : Wd) (s : St) {k : Nat} (h : ¬ sBrn w s k = true) : sBurnTo w s (k + 1) = sBurnTo w s k := by
  have e : ∀ x, (x < k + 1 ∧ sBrn w s x = true) ↔ (x < k ∧ sBrn w s x = true) := fun x => by
    constructor
    · rintro ⟨h1, h2⟩
      refine ⟨?_, h2⟩
      have : x ≠ k := fun q => h (q ▸ h2)
      omega
    · rintro ⟨h1, h2⟩
      exact ⟨by omega, h2⟩
  unfold sBurnTo
  simp only [e]
theorem sBurnTo_at (w : Wd) (s : St) (k : Nat) : (sBurnTo w s k).fu k = s.fu k ∧ (sBurnTo w s k).on k = s.on k := by
  unfold sBurnTo St.fu St.on
  simp
theorem sBurnTo_on (w : Wd) (s : St) {k : Nat} (h : sBrn w s k = true) : (sBurnTo w s (k + 1)).fu k = s.fu k - 1 ∧ (sBurnTo w s (k + 1)).on k = decide (1 < s.fu k) := by
  unfold sBurnTo St.fu St.on
  simp [h]
theorem sBurn_ok {w : Wd} {s : St} (hs : St.ok w s) : St.ok w (sBurn w s) := by
  refine ⟨hs.1, fun x hx => ?_, fun x hx => ?_⟩
  · obtain ⟨h1, h2, h3, h4, h5⟩ := hs.2.1 x hx
    refine ⟨h1, h2, ?_, ?_, ?_⟩
    · show (if x < w.T ∧ sBrn w s x = true then s.2.2.1 x - 1 else s.2.2.1 x) ≤ 99
      have : s.2.2.1 x ≤ 99 := h3
      split <;> omega
    · intro hk
      have : s.2.2.1 x = 0 := h4 hk
      show (if x < w.T ∧ sBrn w s x = true then s.2.2.1 x - 1 else s.2.2.1 x) = 0
      split <;> omega
    · intro ho
      by_cases q : x < w.T ∧ sBrn w s x = true
      · have ho : (if x < w.T ∧ sBrn w s x = true then decide (1 < s.2.2.1 x) else s.2.2.2 x) = true := ho
        rw [if_pos q] at ho
        have ho := of_decide_eq_true ho
        have hk : w.kind x = 108 := by
          have := q.2
          unfold sBrn at this
          simp at this
          exact this.1
        refine Or.inr ⟨hk, ?_⟩
        show 0 < if x < w.T ∧ sBrn w s x = true then s.2.2.1 x - 1 else s.2.2.1 x
        rw [if_pos q]
        omega
      · have ho : (if x < w.T ∧ sBrn w s x = true then decide (1 < s.2.2.1 x) else s.2.2.2 x) = true := ho
        rw [if_neg q] at ho
        rcases h5 ho with h | ⟨h, h'⟩
        · exact Or.inl h
        · refine Or.inr ⟨h, ?_⟩
          show 0 < if x < w.T ∧ sBrn w s x = true then s.2.2.1 x - 1 else s.2.2.1 x
          rw [if_neg q]
          exact h'
  · obtain ⟨h1, h2, h3⟩ := hs.2.2 x hx
    have q : ¬ (x < w.T ∧ sBrn w s x = true) := fun q => by omega
    refine ⟨h1, ?_, ?_⟩
    · show (if x < w.T ∧ sBrn w s x = true then s.2.2.1 x - 1 else s.2.2.1 x) = 0
      rw [if_neg q]; exact h2
    · show (if x < w.T ∧ sBrn w s x = true then decide (1 < s.2.2.1 x) else s.2.2.2 x) = false
      rw [if_neg q]; exact h3
theorem jLe0 {a : Nat} (ha : a < 100000) : nI a ≤ nI 0 ↔ a = 0 := by rw [jLe ha (by omega)]; omega
theorem fm_burns_l {w : Wd} {s : St} (hw : Wd.ok w) (hs : St.ok w s) : ∀ (d x n : Nat) (τ : mS), x + d = w.T → d < n → MWd τ w → MSt τ w.T (sBurnTo w s x) → ∃ τ', fm_burns_2 n τ (nI x) = some τ' ∧ MSt τ' w.T (sBurn w s) ∧ mFr [37, 38] τ τ' := by
  have hT : w.T ≤ 12 := hw.1.2.2.1
  intro d
  induction d with
  | zero =>
    intro x n τ hx hn hW hm
    obtain ⟨n, rfl⟩ : ∃ k, n = k + 1 := ⟨n - 1, by omega⟩
    have eT := hW.1.2.2.1
    have x1 : w.T ≤ x := by omega
    refine ⟨τ, ?_, ?_, mFr.rf _ _⟩
    · rw [fm_burns_2]
      simp (disch := omega) only [eT, jLe, x1, if_true]
    · have : x = w.T := by omega
      subst this
      exact hm
  | succ d ih =>
    intro x n τ hx hn hW hm
    obtain ⟨n, rfl⟩ : ∃ k, n = k + 1 := ⟨n - 1, by omega⟩
    have eT := hW.1.2.2.1
    have x1 : ¬ w.T ≤ x := by omega
    have x2 : ¬ 12 ≤ x := by omega
    have c1 : (nI x).toNatClampNeg = x := jCl (by omega)
    obtain ⟨-, -, -, e13, -⟩ := hW.2.2.2.2.2.1 x (by omega)
    obtain ⟨e36, e38, e37⟩ := hm.2 x (by omega)
    rw [(sBurnTo_at w s x).1] at e38
    rw [(sBurnTo_at w s x).2] at e37
    obtain ⟨-, -, hf, -, ho⟩ := hs.2.1 x (by omega)
    have hk : w.kind x < 1000 := by obtain ⟨-, -, -, -, h, -⟩ := hw.2.2.2.2.2.1 x (by omega); omega
    rw [fm_burns_2]
    unfold fm_burns_62 fm_burns_63
    simp (disch := omega) only [n0, n1, n108, eT, jLe, jEq, jLt, x1, x2, c1, e13, e37, e38, bI_0, mA_at, Nat.not_lt_zero, false_or, if_false, if_true, jAdd, jz0, jz1]
    by_cases q : sBrn w s x = true
    · have q' := q
      unfold sBrn at q'
      simp only [Bool.and_eq_true, decide_eq_true_eq] at q'
      have hf0 : 1 ≤ s.fu x := by
        rcases ho q'.2 with h | h
        · omega
        · exact h.2
      simp only [q'.1, q'.2, if_true, Bool.true_eq_false, if_false]
      rw [show nI (s.fu x) - nI 1 = nI (s.fu x - 1) from jSub hf0]
      simp (disch := omega) only [jLe0]
      have fin : ∀ b : Bool, b = decide (1 < s.fu x) → ∃ τ', fm_burns_2 n (mA (mA τ 38 x (nI (s.fu x - 1))) 37 x (bI b)) (nI (x + 1)) = some τ' ∧ MSt τ' w.T (sBurn w s) ∧ mFr [37, 38] τ τ' := fun b hb => by
        have fr : mFr [37, 38] τ (mA (mA τ 38 x (nI (s.fu x - 1))) 37 x (bI b)) := (mFr.A (by decide)).tr (mFr.A (by decide))
        have hm' : MSt (mA (mA τ 38 x (nI (s.fu x - 1))) 37 x (bI b)) w.T (sBurnTo w s (x + 1)) := by
          refine ⟨hm.1, fun y hy => ?_⟩
          obtain ⟨f36, f38, f37⟩ := hm.2 y hy
          rw [mA_ne _ _ _ (show (36 : Nat) ≠ 37 by decide), mA_ne _ _ _ (show (36 : Nat) ≠ 38 by decide), mA_ne _ _ _ (show (38 : Nat) ≠ 37 by decide), mA_at, mA_at, mA_ne _ _ _ (show (37 : Nat) ≠ 38 by decide)]
          by_cases qy : y = x
          · subst qy
            rw [if_pos rfl, if_pos rfl, (sBurnTo_on w s q).1, (sBurnTo_on w s q).2, hb]
            exact ⟨f36, rfl, rfl⟩
          · rw [if_neg qy, if_neg qy, (sBurnTo_ne w s qy).1, (sBurnTo_ne w s qy).2]
            exact ⟨f36, f38, f37⟩
        obtain ⟨τ', g1, g2, g3⟩ := ih (x + 1) n (mA (mA τ 38 x (nI (s.fu x - 1))) 37 x (bI b)) (by omega) (by omega) (hW.fr fr (by decide)) hm'
        exact ⟨τ', g1, g2, fr.tr g3⟩
      by_cases q2 : s.fu x - 1 = 0
      · rw [if_pos q2]
        exact fin false (by symm; simp; omega)
      · rw [if_neg q2]
        exact fin true (by symm; simp; omega)
    · have nxt : ∃ τ', fm_burns_2 n τ (nI (x + 1)) = some τ' ∧ MSt τ' w.T (sBurn w s) ∧ mFr [37, 38] τ τ' := ih (x + 1) n τ (by omega) (by omega) hW (by rw [sBurnTo_off w s q]; exact hm)
      by_cases q1 : w.kind x = 108
      · have q2 : s.on x = false := by
          unfold sBrn at q
          simpa [q1] using q
        simp only [q1, q2, if_true]
        exact nxt
      · simp only [q1, if_false]
        exact nxt
theorem fm_burns_s {τ : mS} {w : Wd} {s : St} (hw : Wd.ok w) (hW : MWd τ w) (hs : St.ok w s) (hm : MSt τ w.T s) : ∃ τ', fm_burns τ = some τ' ∧ MSt τ' w.T (sBurn w s) ∧ mFr [37, 38] τ τ' :=
  fm_burns_l hw hs w.T 0 3000 τ (by omega) (by have := hw.1.2.2.1; omega) hW (by rw [sBurnTo_0]; exact hm)
