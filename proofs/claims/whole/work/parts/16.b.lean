/-! Children and postings by index; how many. -/
def sNth (P : Nat → Bool) (x d k : Nat) : Option Nat := ((List.range' x d).filter P)[k]?
theorem sNth_0 (P : Nat → Bool) (x k : Nat) : sNth P x 0 k = none := rfl
theorem sNth_s (P : Nat → Bool) (x d k : Nat) : sNth P x (d + 1) k = if P x = true then (if k = 0 then some x else sNth P (x + 1) d (k - 1)) else sNth P (x + 1) d k := by
  unfold sNth
  rw [List.range'_succ, List.filter_cons]
  by_cases q : P x = true
  · rw [if_pos q, if_pos q]
    cases k with
    | zero => rfl
    | succ k => rw [if_neg (by omega)]; rfl
  · rw [if_neg q, if_neg q]
theorem sNth_skip {P : Nat → Bool} {e k : Nat} : ∀ (d x : Nat), (∀ y, x ≤ y → y < x + d → P y = false) → sNth P x (d + e) k = sNth P (x + d) e k := by
  intro d
  induction d with
  | zero => intro x _; rw [Nat.zero_add, Nat.add_zero]
  | succ d ih =>
    intro x h
    rw [show d + 1 + e = (d + e) + 1 by omega, sNth_s, h x (by omega) (by omega), if_neg (by decide), ih (x + 1) (fun y h1 h2 => h y (by omega) (by omega)), show x + 1 + d = x + (d + 1) by omega]
def sCnt (P : Nat → Bool) (x d : Nat) : Nat := sumR x d fun i => if P i = true then 1 else 0
theorem sNth_cnt {P : Nat → Bool} : ∀ (d x k : Nat), (sNth P x d k).isSome = decide (k < sCnt P x d) := by
  intro d
  induction d with
  | zero => intro x k; rfl
  | succ d ih =>
    intro x k
    unfold sCnt at ih ⊢
    rw [sNth_s, sumR_s]
    by_cases q : P x = true
    · rw [if_pos q, if_pos q]
      by_cases q2 : k = 0
      · rw [if_pos q2, q2]
        exact (decide_eq_true (by omega)).symm
      · rw [if_neg q2, ih, decide_eq_decide]
        omega
    · rw [if_neg q, if_neg q, ih, decide_eq_decide]
      omega
theorem sNth_lt {P : Nat → Bool} : ∀ (d x k : Nat) {y : Nat}, sNth P x d k = some y → x ≤ y ∧ y < x + d ∧ P y = true := by
  intro d
  induction d with
  | zero => intro x k y h; cases h
  | succ d ih =>
    intro x k y h
    rw [sNth_s] at h
    by_cases q : P x = true
    · rw [if_pos q] at h
      by_cases q2 : k = 0
      · rw [if_pos q2] at h
        have := Option.some.inj h
        subst this
        exact ⟨Nat.le_refl _, by omega, q⟩
      · rw [if_neg q2] at h
        have := ih _ _ h
        exact ⟨by omega, by omega, this.2.2⟩
    · rw [if_neg q] at h
      have := ih _ _ h
      exact ⟨by omega, by omega, this.2.2⟩
theorem sumR_skip {f : Nat → Nat} {e : Nat} (d x : Nat) (h : ∀ y, x ≤ y → y < x + d → f y = 0) : sumR x (d + e) f = sumR (x + d) e f := by
  rw [sumR_add, sumR_congr (g := fun _ => 0) d x h]
  have : ∀ d x, sumR x d (fun _ => 0) = 0 := by
    intro d
    induction d with
    | zero => intro x; rfl
    | succ d ih => intro x; rw [sumR_s, ih]
  rw [this, Nat.zero_add]
theorem bE {a b : Nat} (ha : a < 2147483648) (hb : b < 2147483648) : nI a = nI b ↔ a = b := nI_eq ha hb
theorem jDec {a : Nat} (h : a ≠ 0) : nI a + -nI 1 = nI (a - 1) := by
  have e : nI a = nI (a - 1) + nI 1 := by rw [jAdd]; congr 1; omega
  rw [e, Int32.add_assoc, show nI 1 + -nI 1 = 0 by decide, Int32.add_zero]
section SB
variable {σ : cS} {τ : mS} {w : Wd} {t : Tr}
def kidP (t : Tr) (p i : Nat) : Bool := decide (i ≠ 0 ∧ t.par i = p)
theorem kidP_e {t : Tr} {p i : Nat} (h : i ≠ 0) : (kidP t p i = true) = (t.par i = p) := by
  unfold kidP
  rw [decide_eq_true_iff]
  exact propext ⟨fun q => q.2, fun q => ⟨h, q⟩⟩
theorem fm_child_l (ht : Tr.ok w t) (hM : MTr τ w t) {p : Nat} (hp : p < t.N) : ∀ (d x k f : Nat), 0 < x → x + d = t.N → d < f → k < 2147483648 → fm_child_5 f τ (nI p) (nI k) (nI x) = some (oI (sNth (kidP t p) x d k), τ) := by
  have h80 := ht.1.1
  intro d
  induction d with
  | zero =>
    intro x k f h0 hx hf hk
    obtain ⟨f, rfl⟩ : ∃ k, f = k + 1 := ⟨f - 1, by omega⟩
    have x1 : t.N ≤ x := by omega
    rw [fm_child_5, hM.1.1]
    simp (disch := omega) only [jLe, x1, if_true]
    rfl
  | succ d ih =>
    intro x k f h0 hx hf hk
    obtain ⟨f, rfl⟩ : ∃ k, f = k + 1 := ⟨f - 1, by omega⟩
    have x1 : ¬ t.N ≤ x := by omega
    have x2 : ¬ 80 ≤ x := by omega
    have x3 : ¬ x = 0 := by omega
    have c1 : (nI x).toNatClampNeg = x := jCl (by omega)
    obtain ⟨e1, -, -⟩ := hM.2 x (by omega)
    have hq := ht.2.1 x h0 (by omega)
    rw [fm_child_5, hM.1.1, sNth_s]
    unfold fm_child_38
    simp (disch := omega) only [n0, n1, jLe, jLt, jEq, bE, x1, x2, x3, c1, e1, Nat.not_lt_zero, false_or, if_false, jAdd, kidP_e x3]
    by_cases q : t.par x = p
    · rw [if_pos q, if_pos q]
      by_cases q2 : k = 0
      · rw [if_pos q2, if_pos q2]; rfl
      · rw [if_neg q2, if_neg q2, jDec q2, ih (x + 1) (k - 1) f (by omega) (by omega) (by omega) (by omega)]
    · rw [if_neg q, if_neg q, ih (x + 1) k f (by omega) (by omega) (by omega) hk]
theorem fm_child_s (ht : Tr.ok w t) (hM : MTr τ w t) {p k : Nat} (hp : p < t.N) (hk : k < 2147483648) : fm_child τ (nI p) (nI k) = some (oI (sNth (kidP t p) 1 (t.N - 1) k), τ) :=
  fm_child_l ht hM hp (t.N - 1) 1 k 3000 (by omega) (by omega) (by have := ht.1.1; omega) hk
theorem fc_childAt_l (ht : Tr.ok w t) (hC : CTr σ t) {p : Nat} (hp : p < t.N) : ∀ (d x b k f : Nat), 0 < x → x + d = t.N → d < f → b + k < 2147483648 → fc_X8_childAt_15 f σ (nI (b + k)) (some p) (nI b) (nI x) = some (oI (sNth (kidP t p) x d k), σ) := by
  have h80 := ht.1.1
  intro d
  induction d with
  | zero =>
    intro x b k f h0 hx hf hk
    obtain ⟨f, rfl⟩ : ∃ k, f = k + 1 := ⟨f - 1, by omega⟩
    have x1 : t.N ≤ x := by omega
    rw [fc_X8_childAt_15, hC.1.2.1.size, Option.bind_some]
    simp (disch := omega) only [jLe, x1, if_true]
    rfl
  | succ d ih =>
    intro x b k f h0 hx hf hk
    obtain ⟨f, rfl⟩ : ∃ k, f = k + 1 := ⟨f - 1, by omega⟩
    have x1 : ¬ t.N ≤ x := by omega
    have x3 : ¬ x = 0 := by omega
    obtain ⟨-, e1, -, -⟩ := hC.2.1 x (by omega)
    have hq := ht.2.1 x h0 (by omega)
    rw [fc_X8_childAt_15, hC.1.2.1.size, Option.bind_some, hC.1.2.1.get (show x < t.N by omega) (by omega), sNth_s]
    unfold fc_X8_childAt_57
    have l1 := hC.lv (show x < t.N by omega)
    have l2 := hC.lv (show t.par x < t.N by omega)
    simp (disch := omega) only [n1, jLe, x1, x3, if_false, Option.bind_some, l1, l2, hC.dn (show x < t.N by omega), e1, hC.lv hp, Option.some.injEq, jAdd, kidP_e x3]
    by_cases q : t.par x = p
    · rw [if_pos q, if_pos q]
      by_cases q2 : k = 0
      · rw [if_pos q2, q2, Nat.add_zero, if_pos rfl]; rfl
      · rw [if_neg q2, if_neg (fun h => q2 (by have := (nI_eq (by omega) (by omega)).mp h; omega))]
        have := ih (x + 1) (b + 1) (k - 1) f (by omega) (by omega) (by omega) (by omega)
        rw [show b + 1 + (k - 1) = b + k by omega] at this
        rw [this]
    · rw [if_neg q, if_neg q, ih (x + 1) b k f (by omega) (by omega) (by omega) hk]
theorem fc_childAt_n (ht : Tr.ok w t) (hC : CTr σ t) {p : Nat} (hp : p < t.N) {v : Int32} (hv : v < 0) : ∀ (d x b f : Nat), 0 < x → x + d = t.N → d < f → b + d < 100000 → fc_X8_childAt_15 f σ v (some p) (nI b) (nI x) = some (-nI 1, σ) := by
  have h80 := ht.1.1
  intro d
  induction d with
  | zero =>
    intro x b f h0 hx hf hb
    obtain ⟨f, rfl⟩ : ∃ k, f = k + 1 := ⟨f - 1, by omega⟩
    have x1 : t.N ≤ x := by omega
    rw [fc_X8_childAt_15, hC.1.2.1.size, Option.bind_some]
    simp (disch := omega) only [jLe, x1, if_true]
    rfl
  | succ d ih =>
    intro x b f h0 hx hf hb
    obtain ⟨f, rfl⟩ : ∃ k, f = k + 1 := ⟨f - 1, by omega⟩
    have x1 : ¬ t.N ≤ x := by omega
    have x3 : ¬ x = 0 := by omega
    obtain ⟨-, e1, -, -⟩ := hC.2.1 x (by omega)
    have hq := ht.2.1 x h0 (by omega)
    have x4 : ¬ nI b = v := fun h => by
      rw [← h, n0, jLt (by omega) (by omega)] at hv
      omega
    rw [fc_X8_childAt_15, hC.1.2.1.size, Option.bind_some, hC.1.2.1.get (show x < t.N by omega) (by omega)]
    unfold fc_X8_childAt_57
    have l1 := hC.lv (show x < t.N by omega)
    have l2 := hC.lv (show t.par x < t.N by omega)
    simp (disch := omega) only [n1, jLe, x1, x3, x4, if_false, Option.bind_some, l1, l2, hC.dn (show x < t.N by omega), e1, hC.lv hp, Option.some.injEq, jAdd]
    rw [ih (x + 1) b f (by omega) (by omega) (by omega) (by omega), ih (x + 1) (b + 1) f (by omega) (by omega) (by omega) (by omega), ite_self]
/-- the child of an index of the node where play is -/
def sKid (t : Tr) (v : Int32) : Option Nat := if v < nI 0 then none else sNth (kidP t t.now) 1 (t.N - 1) v.toNatClampNeg
theorem kid_skip (ht : Tr.ok w t) {p : Nat} (hp : p < t.N) (k : Nat) : sNth (kidP t p) 1 (t.N - 1) k = sNth (kidP t p) (p + 1) (t.N - 1 - p) k := by
  have h := sNth_skip (P := kidP t p) (e := t.N - 1 - p) (k := k) p 1 (fun y h1 h2 => by
    have := ht.2.1 y (by omega) (by omega)
    exact decide_eq_false (by omega))
  rw [show p + (t.N - 1 - p) = t.N - 1 by omega, Nat.add_comm 1 p] at h
  exact h
theorem fc_childAt_s (ht : Tr.ok w t) (hC : CTr σ t) (h0 : 0 < t.N) (v : Int32) : fc_X8_childAt σ v = some (oI (sKid t v), σ) := by
  have h80 := ht.1.1
  have hn := ht.1.2.1 h0
  unfold fc_X8_childAt sKid
  rw [fc_current_s ht hC h0, Option.bind_some]
  simp only [hC.1.1, n1, n0, jAdd]
  by_cases q : v < nI 0
  · rw [if_pos q, fc_childAt_n ht hC hn q (t.N - (t.now + 1)) (t.now + 1) 0 3000 (by omega) (by omega) (by omega) (by omega)]
    rfl
  · obtain ⟨k, hk, rfl⟩ := nI_of q
    rw [if_neg q, nI_clamp hk, kid_skip ht hn]
    have h := fc_childAt_l ht hC hn (t.N - 1 - t.now) (t.now + 1) 0 k 3000 (by omega) (by omega) (by omega) (by omega)
    rw [Nat.zero_add] at h
    exact h
theorem fc_childCount_l (ht : Tr.ok w t) (hC : CTr σ t) {p : Nat} (hp : p < t.N) : ∀ (d x a f : Nat), 0 < x → x + d = t.N → d < f → fc_X8_childCount_19 f σ (some p) (nI a) (nI x) = some (nI (a + sCnt (kidP t p) x d), σ) := by
  have h80 := ht.1.1
  intro d
  induction d with
  | zero =>
    intro x a f h0 hx hf
    obtain ⟨f, rfl⟩ : ∃ k, f = k + 1 := ⟨f - 1, by omega⟩
    have x1 : t.N ≤ x := by omega
    rw [fc_X8_childCount_19, hC.1.2.1.size, Option.bind_some]
    simp (disch := omega) only [jLe, x1, if_true]
    rfl
  | succ d ih =>
    intro x a f h0 hx hf
    obtain ⟨f, rfl⟩ : ∃ k, f = k + 1 := ⟨f - 1, by omega⟩
    have x1 : ¬ t.N ≤ x := by omega
    have x3 : ¬ x = 0 := by omega
    obtain ⟨-, e1, -, -⟩ := hC.2.1 x (by omega)
    have hq := ht.2.1 x h0 (by omega)
    have es : sCnt (kidP t p) x (d + 1) = (if kidP t p x = true then 1 else 0) + sCnt (kidP t p) (x + 1) d := sumR_s _ _ _
    simp only [kidP_e x3] at es
    rw [fc_X8_childCount_19, hC.1.2.1.size, Option.bind_some, hC.1.2.1.get (show x < t.N by omega) (by omega), es]
    unfold fc_X8_childCount_53
    have l1 := hC.lv (show x < t.N by omega)
    have l2 := hC.lv (show t.par x < t.N by omega)
    simp (disch := omega) only [n1, jLe, x1, if_false, Option.bind_some, l1, l2, hC.dn (show x < t.N by omega), e1, hC.lv hp, Option.some.injEq, jAdd, if_neg x3]
    rw [ih (x + 1) a f (by omega) (by omega) (by omega), ih (x + 1) (a + 1) f (by omega) (by omega) (by omega)]
    by_cases q : t.par x = p <;> simp [q, Nat.add_assoc]
def sKids (t : Tr) (p : Nat) : Nat := sCnt (kidP t p) 1 (t.N - 1)
theorem fc_childCount_s (ht : Tr.ok w t) (hC : CTr σ t) {p : Nat} (hp : p < t.N) : fc_X8_childCount σ (nI p) = some (nI (sKids t p), σ) := by
  have h80 := ht.1.1
  unfold fc_X8_childCount
  rw [hC.1.2.1.get hp (by omega), Option.bind_some]
  simp only [hC.lv hp, if_false, n1, n0, jAdd]
  rw [fc_childCount_l ht hC hp (t.N - (p + 1)) (p + 1) 0 3000 (by omega) (by omega) (by omega), Nat.zero_add]
  have h := sumR_skip (f := fun i => if kidP t p i = true then 1 else 0) (e := t.N - 1 - p) p 1 (fun y h1 h2 => by
    have := ht.2.1 y (by omega) (by omega)
    exact if_neg (fun h => by have := of_decide_eq_true h; omega))
  rw [show p + (t.N - 1 - p) = t.N - 1 by omega, Nat.add_comm 1 p, show t.N - 1 - p = t.N - (p + 1) by omega] at h
  unfold sKids sCnt
  rw [h]
theorem fm_children_l (ht : Tr.ok w t) (hM : MTr τ w t) {p : Nat} (hp : p < t.N) : ∀ (d k f : Nat), k + d = sKids t p → d < f → fm_children_24 f τ (nI p) (nI k) = some (nI (sKids t p), τ) := by
  have h80 := ht.1.1
  have hK : sKids t p ≤ (t.N - 1) * 1 := sumR_le _ _ (fun y _ _ => by split <;> omega)
  intro d
  induction d with
  | zero =>
    intro k f hx hf
    obtain ⟨f, rfl⟩ : ∃ k, f = k + 1 := ⟨f - 1, by omega⟩
    have h := sNth_cnt (P := kidP t p) (t.N - 1) 1 k
    rw [decide_eq_false (by unfold sKids at hx; omega), Option.isSome_eq_false_iff, Option.isNone_iff_eq_none] at h
    rw [fm_children_24, fm_child_s ht hM hp (by omega), Option.bind_some, h]
    rw [if_pos (show oI none = (-1 : Int32) from rfl), show k = sKids t p by omega]
  | succ d ih =>
    intro k f hx hf
    obtain ⟨f, rfl⟩ : ∃ k, f = k + 1 := ⟨f - 1, by omega⟩
    have h := sNth_cnt (P := kidP t p) (t.N - 1) 1 k
    rw [decide_eq_true (by unfold sKids at hx; omega), Option.isSome_iff_exists] at h
    obtain ⟨y, hy⟩ := h
    have hl := sNth_lt _ _ _ hy
    rw [fm_children_24, fm_child_s ht hM hp (by omega), Option.bind_some, hy]
    rw [if_neg (show ¬ oI (some y) = (-1 : Int32) from fun h => (jM1 (a := y) (by omega)).mp h), n1, jAdd]
    exact ih (k + 1) f (by omega) (by omega)
end SB
