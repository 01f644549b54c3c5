/-! The least number of exits to a room: both sides. -/
abbrev Fs : Type := Nat → Option Nat
def sEdge (w : Wd) (s : St) (i r d : Nat) (F : Fs) : Fs := match sFree w s (6 * r + d) with
  | some q => if F q = none then (fun y => if y = q then some (i + 1) else F y) else F
  | none => F
def sEdges (w : Wd) (s : St) (i r : Nat) : Nat → Nat → Fs → Fs
  | 0, _, F => F
  | e + 1, d, F => sEdges w s i r e (d + 1) (sEdge w s i r d F)
def sRm1 (w : Wd) (s : St) (i r : Nat) (F : Fs) : Fs := if F r = some i then sEdges w s i r 6 0 F else F
def sRnd (w : Wd) (s : St) (i : Nat) : Nat → Nat → Fs → Fs
  | 0, _, F => F
  | e + 1, r, F => sRnd w s i e (r + 1) (sRm1 w s i r F)
def sRnds (w : Wd) (s : St) : Nat → Nat → Fs → Fs
  | 0, _, F => F
  | e + 1, i, F => sRnds w s e (i + 1) (sRnd w s i w.R 0 F)
/-- set values stay -/
def Fle (F G : Fs) : Prop := ∀ y v, F y = some v → G y = some v
theorem Fle.rf (F : Fs) : Fle F F := fun _ _ h => h
theorem Fle.tr {F G H : Fs} (h : Fle F G) (h2 : Fle G H) : Fle F H := fun y v q => h2 y v (h y v q)
/-- values are at most 12 -/
def Fb (F : Fs) : Prop := ∀ y v, F y = some v → v ≤ 12
section U20
variable {g : Gm} {σ σ1 : cS} {τ τ1 : mS} {w : Wd} {s : St}
theorem sEdge_n {i r d : Nat} {F : Fs} (e : sFree w s (6 * r + d) = none) : sEdge w s i r d F = F := by
  unfold sEdge
  rw [e]
theorem sEdge_s {i r d q : Nat} {F : Fs} (e : sFree w s (6 * r + d) = some q) : sEdge w s i r d F = if F q = none then (fun y => if y = q then some (i + 1) else F y) else F := by
  unfold sEdge
  rw [e]
theorem sEdge_le (i r d : Nat) (F : Fs) : Fle F (sEdge w s i r d F) := by
  intro y v h
  cases e : sFree w s (6 * r + d) with
  | none => rw [sEdge_n e]; exact h
  | some q =>
    rw [sEdge_s e]
    by_cases hq : F q = none
    · rw [if_pos hq]
      show (if y = q then some (i + 1) else F y) = some v
      by_cases z : y = q
      · rw [z, hq] at h
        cases h
      · rw [if_neg z]; exact h
    · rw [if_neg hq]; exact h
theorem sEdge_b {i : Nat} (hi : i < 12) (r d : Nat) {F : Fs} (h : Fb F) : Fb (sEdge w s i r d F) := by
  intro y v hy
  cases e : sFree w s (6 * r + d) with
  | none => rw [sEdge_n e] at hy; exact h y v hy
  | some q =>
    rw [sEdge_s e] at hy
    by_cases hq : F q = none
    · rw [if_pos hq] at hy
      replace hy : (if y = q then some (i + 1) else F y) = some v := hy
      by_cases z : y = q
      · rw [if_pos z] at hy
        cases hy
        omega
      · rw [if_neg z] at hy
        exact h y v hy
    · rw [if_neg hq] at hy
      exact h y v hy
theorem sEdges_le (i r : Nat) : ∀ (e d : Nat) (F : Fs), Fle F (sEdges w s i r e d F) := by
  intro e
  induction e with
  | zero => intro d F; exact Fle.rf F
  | succ e ih => intro d F; exact (sEdge_le i r d F).tr (ih _ _)
theorem sEdges_b {i : Nat} (hi : i < 12) (r : Nat) : ∀ (e d : Nat) {F : Fs}, Fb F → Fb (sEdges w s i r e d F) := by
  intro e
  induction e with
  | zero => intro d F h; exact h
  | succ e ih => intro d F h; exact ih _ (sEdge_b hi r d h)
theorem sRm1_le (i r : Nat) (F : Fs) : Fle F (sRm1 w s i r F) := by
  unfold sRm1
  split
  · exact sEdges_le _ _ _ _ _
  · exact Fle.rf F
theorem sRm1_b {i : Nat} (hi : i < 12) (r : Nat) {F : Fs} (h : Fb F) : Fb (sRm1 w s i r F) := by
  unfold sRm1
  split
  · exact sEdges_b hi r 6 0 h
  · exact h
theorem sRnd_le (i : Nat) : ∀ (e r : Nat) (F : Fs), Fle F (sRnd w s i e r F) := by
  intro e
  induction e with
  | zero => intro r F; exact Fle.rf F
  | succ e ih => intro r F; exact (sRm1_le i r F).tr (ih _ _)
theorem sRnd_b {i : Nat} (hi : i < 12) : ∀ (e r : Nat) {F : Fs}, Fb F → Fb (sRnd w s i e r F) := by
  intro e
  induction e with
  | zero => intro r F h; exact h
  | succ e ih => intro r F h; exact ih _ (sRm1_b hi r h)
theorem sRnds_le : ∀ (e i : Nat) (F : Fs), Fle F (sRnds w s e i F) := by
  intro e
  induction e with
  | zero => intro i F; exact Fle.rf F
  | succ e ih => intro i F; exact (sRnd_le i _ _ F).tr (ih _ _)
theorem sRnds_b : ∀ (e i : Nat) {F : Fs}, i + e ≤ 12 → Fb F → Fb (sRnds w s e i F) := by
  intro e
  induction e with
  | zero => intro i F _ h; exact h
  | succ e ih => intro i F hi h; exact ih _ (by omega) (sRnd_b (by omega) _ _ h)
def MFar (τ : mS) (R : Nat) (F : Fs) : Prop := ∀ r, r < R → τ.2.2.1 50 r = oI (F r)
def CFar (σ : cS) (F : Fs) : Prop := ∀ r, r < 12 → cI σ 12 10 r = oI (F r)
theorem oI_eq {F : Fs} (h : Fb F) {r i : Nat} (hi : i < 1000) : (oI (F r) = nI i) = (F r = some i) := by
  cases e : F r with
  | none => exact propext ⟨fun z => absurd z.symm (fun z => (jM1 (a := i) (by omega)).mp z), fun z => by cases z⟩
  | some v =>
    have := h r v e
    exact propext ⟨fun z => by rw [(jEq (a := v) (b := i) (by omega) (by omega)).mp z], fun z => by cases z; rfl⟩
theorem oI_no {F : Fs} (h : Fb F) {r : Nat} : (oI (F r) = (-1 : Int32)) = (F r = none) := by
  cases e : F r with
  | none => exact propext ⟨fun _ => rfl, fun _ => rfl⟩
  | some v =>
    have := h r v e
    exact propext ⟨fun z => absurd z (fun z => (jM1 (a := v) (by omega)).mp z), fun z => by cases z⟩
theorem fm_edge_l (hw : Wd.ok w) (hs : St.ok w s) {K78 : mS → Int32 → Int32 → Option (Int32 × mS)} {K88 : mS → Int32 → Int32 → Int32 → Option (Int32 × mS)} {x1 : Int32} {i r : Nat} (hi : i < 12) (hr : r < w.R) : ∀ (e d n : Nat) (τ : mS) (F : Fs), d + e = 6 → e < n → MWd τ w → MSt τ w.T s → MFar τ w.R F → Fb F → F r = some i → ∃ τ', fm_steps_99 K78 K88 n τ x1 (nI i) (nI r) (nI d) = fm_steps_167 K78 K88 τ' x1 (nI i) (nI r) ∧ MFar τ' w.R (sEdges w s i r e d F) ∧ mFr [50] τ τ' := by
  have hR := hw.1.2.1
  intro e
  induction e with
  | zero =>
    intro d n τ F hd hn hW hm hF hb h0
    obtain ⟨n, rfl⟩ : ∃ m, n = m + 1 := ⟨n - 1, by omega⟩
    refine ⟨τ, ?_, hF, mFr.rf _ _⟩
    rw [show fm_steps_99 K78 K88 (n + 1) τ x1 (nI i) (nI r) (nI d) = if (6 : Int32) ≤ nI d then fm_steps_167 K78 K88 τ x1 (nI i) (nI r) else _ from rfl]
    exact if_pos (show (6 : Int32) ≤ nI d by rw [show d = 6 by omega]; decide)
  | succ e ih =>
    intro d n τ F hd hn hW hm hF hb h0
    obtain ⟨n, rfl⟩ : ∃ m, n = m + 1 := ⟨n - 1, by omega⟩
    have go : ∀ (τ2 : mS) (F2 : Fs), F2 = sEdge w s i r d F → MFar τ2 w.R F2 → mFr [50] τ τ2 → ∃ τ', fm_steps_161 K78 K88 (fm_steps_99 K78 K88 n) τ2 x1 (nI i) (nI r) (nI d) = fm_steps_167 K78 K88 τ' x1 (nI i) (nI r) ∧ MFar τ' w.R (sEdges w s i r (e + 1) d F) ∧ mFr [50] τ τ' := by
      intro τ2 F2 e2 hF2 hf2
      unfold fm_steps_161
      rw [n1, jAdd]
      obtain ⟨τ', a1, a2, a3⟩ := ih (d + 1) n τ2 F2 (by omega) (by omega) (hW.fr hf2 (by decide)) (hm.fr hf2 (by decide)) hF2 (by rw [e2]; exact sEdge_b hi r d hb) (by rw [e2]; exact sEdge_le i r d F r i h0)
      refine ⟨τ', a1, ?_, hf2.tr a3⟩
      show MFar τ' w.R (sEdges w s i r e (d + 1) (sEdge w s i r d F))
      rw [← e2]
      exact a2
    have hx : 6 * r + d < 6 * w.R := by omega
    have e7 := (hW.2.2.2.2.1 (6 * r + d) hx).1
    rw [show fm_steps_99 K78 K88 (n + 1) τ x1 (nI i) (nI r) (nI d) = if (6 : Int32) ≤ nI d then _ else if nI r < 0 ∨ 12 ≤ (nI r).toNatClampNeg then none else if (τ.2.2.1 50 (nI r).toNatClampNeg) = nI i then (if (((6 : Int32) * nI r) + nI d) < 0 ∨ 72 ≤ (((6 : Int32) * nI r) + nI d).toNatClampNeg then none else (fm_isFree τ (nI r) (nI d)).bind fun r_1 => if r_1.1 = 0 then fm_steps_161 K78 K88 (fm_steps_99 K78 K88 n) r_1.2 x1 (nI i) (nI r) (nI d) else if (τ.2.2.1 7 (((6 : Int32) * nI r) + nI d).toNatClampNeg) < 0 ∨ 12 ≤ (τ.2.2.1 7 (((6 : Int32) * nI r) + nI d).toNatClampNeg).toNatClampNeg then none else if (r_1.2.2.2.1 50 (τ.2.2.1 7 (((6 : Int32) * nI r) + nI d).toNatClampNeg).toNatClampNeg) = (-1 : Int32) then (if (τ.2.2.1 7 (((6 : Int32) * nI r) + nI d).toNatClampNeg) < 0 ∨ 12 ≤ (τ.2.2.1 7 (((6 : Int32) * nI r) + nI d).toNatClampNeg).toNatClampNeg then none else fm_steps_161 K78 K88 (fm_steps_99 K78 K88 n) (mA r_1.2 50 (τ.2.2.1 7 (((6 : Int32) * nI r) + nI d).toNatClampNeg).toNatClampNeg (nI i + (1 : Int32))) x1 (nI i) (nI r) (nI d)) else fm_steps_161 K78 K88 (fm_steps_99 K78 K88 n) r_1.2 x1 (nI i) (nI r) (nI d)) else fm_steps_167 K78 K88 τ x1 (nI i) (nI r) from rfl]
    rw [if_neg (show ¬ (6 : Int32) ≤ nI d by rw [n6, jLe (by omega) (by omega)]; omega), if_neg (iN0 (show r < 12 by omega) (by omega)), jCl (show r < 100000 by omega), hF r hr, h0, if_pos (show oI (some i) = nI i from rfl), n6, jMul, jAdd, if_neg (iN0 (show 6 * r + d < 72 by omega) (by omega)), jCl (show 6 * r + d < 100000 by omega), e7, fm_isFree_s hw hW hs hm hr (by omega), Option.bind_some, bI_if]
    cases ef : sFree w s (6 * r + d) with
    | none =>
      rw [if_neg (show ¬ (none : Option Nat).isSome = true by decide)]
      exact go τ F (sEdge_n ef).symm hF (mFr.rf _ _)
    | some q =>
      have hxq : w.ex (6 * r + d) = some q := by
        unfold sFree at ef
        split at ef
        · exact ef
        · split at ef
          · exact ef
          · cases ef
      have hqR := (hw.2.2.2.1 _ _ hxq).2
      rw [if_pos (show (some q).isSome = true by rfl), hxq, show oI (some q) = nI q from rfl, if_neg (iN0 (show q < 12 by omega) (by omega)), jCl (show q < 100000 by omega), hF q hqR]
      by_cases z : F q = none
      · rw [z, if_pos (show oI none = (-1 : Int32) from rfl), if_neg (iN1 (show q < 12 by omega) (by omega)), n1, jAdd]
        refine go _ (fun y => if y = q then some (i + 1) else F y) ((sEdge_s ef).trans (if_pos z)).symm (fun y hy => ?_) (mFr.A (List.mem_singleton.mpr rfl))
        rw [mA_at]
        show _ = oI (if y = q then some (i + 1) else F y)
        by_cases z2 : y = q
        · rw [if_pos z2, if_pos z2]; rfl
        · rw [if_neg z2, if_neg z2]
          exact hF y hy
      · rw [if_neg (show ¬ oI (F q) = (-1 : Int32) by rw [oI_no hb]; exact z)]
        exact go τ F ((sEdge_s ef).trans (if_neg z)).symm hF (mFr.rf _ _)
theorem fm_edge_no {K78 : mS → Int32 → Int32 → Option (Int32 × mS)} {K88 : mS → Int32 → Int32 → Int32 → Option (Int32 × mS)} {x1 : Int32} {i r R n : Nat} {F : Fs} (hr : r < R) (hR : R ≤ 12) (hF : MFar τ R F) (hb : Fb F) (hi : i < 12) (h : ¬ F r = some i) : fm_steps_99 K78 K88 (n + 1) τ x1 (nI i) (nI r) (nI 0) = fm_steps_167 K78 K88 τ x1 (nI i) (nI r) := by
  rw [show fm_steps_99 K78 K88 (n + 1) τ x1 (nI i) (nI r) (nI 0) = if (6 : Int32) ≤ nI 0 then fm_steps_167 K78 K88 τ x1 (nI i) (nI r) else if nI r < 0 ∨ 12 ≤ (nI r).toNatClampNeg then none else if (τ.2.2.1 50 (nI r).toNatClampNeg) = nI i then _ else fm_steps_167 K78 K88 τ x1 (nI i) (nI r) from rfl]
  rw [if_neg (show ¬ (6 : Int32) ≤ nI 0 by decide), if_neg (iN0 (show r < 12 by omega) (by omega)), jCl (show r < 100000 by omega), hF r hr, if_neg (show ¬ oI (F r) = nI i by rw [oI_eq hb (by omega)]; exact h)]
theorem fm_rnd_l (hw : Wd.ok w) (hs : St.ok w s) {K78 : mS → Int32 → Int32 → Option (Int32 × mS)} {x1 : Int32} {i : Nat} (hi : i < 12) : ∀ (e r n : Nat) (τ : mS) (F : Fs), r + e = w.R → e < n → MWd τ w → MSt τ w.T s → MFar τ w.R F → Fb F → ∃ τ', fm_steps_88 K78 n τ x1 (nI i) (nI r) = K78 τ' x1 (nI (i + 1)) ∧ MFar τ' w.R (sRnd w s i e r F) ∧ mFr [50] τ τ' := by
  have hR := hw.1.2.1
  intro e
  induction e with
  | zero =>
    intro r n τ F hr hn hW hm hF hb
    obtain ⟨n, rfl⟩ : ∃ m, n = m + 1 := ⟨n - 1, by omega⟩
    refine ⟨τ, ?_, hF, mFr.rf _ _⟩
    rw [show fm_steps_88 K78 (n + 1) τ x1 (nI i) (nI r) = if (τ.1 9) ≤ nI r then K78 τ x1 (nI i + nI 1) else _ from rfl]
    rw [hW.1.2.1, if_pos (show nI w.R ≤ nI r by rw [jLe (by omega) (by omega)]; omega), jAdd]
  | succ e ih =>
    intro r n τ F hr hn hW hm hF hb
    obtain ⟨n, rfl⟩ : ∃ m, n = m + 1 := ⟨n - 1, by omega⟩
    rw [show fm_steps_88 K78 (n + 1) τ x1 (nI i) (nI r) = if (τ.1 9) ≤ nI r then K78 τ x1 (nI i + nI 1) else fm_steps_99 K78 (fm_steps_88 K78 n) 3000 τ x1 (nI i) (nI r) (nI 0) from rfl]
    rw [hW.1.2.1, if_neg (show ¬ nI w.R ≤ nI r by rw [jLe (by omega) (by omega)]; omega)]
    have one : ∃ τ1, fm_steps_99 K78 (fm_steps_88 K78 n) 3000 τ x1 (nI i) (nI r) (nI 0) = fm_steps_167 K78 (fm_steps_88 K78 n) τ1 x1 (nI i) (nI r) ∧ MFar τ1 w.R (sRm1 w s i r F) ∧ mFr [50] τ τ1 := by
      by_cases z : F r = some i
      · obtain ⟨τ1, a1, a2, a3⟩ := fm_edge_l hw hs (K78 := K78) (K88 := fm_steps_88 K78 n) (x1 := x1) hi (show r < w.R by omega) 6 0 3000 τ F (by omega) (by omega) hW hm hF hb z
        refine ⟨τ1, a1, ?_, a3⟩
        unfold sRm1
        rw [if_pos z]
        exact a2
      · refine ⟨τ, ?_, ?_, mFr.rf _ _⟩
        · obtain ⟨m, hm3⟩ : ∃ m, 3000 = m + 1 := ⟨2999, rfl⟩
          rw [hm3]
          exact fm_edge_no (show r < w.R by omega) hR hF hb (by omega) z
        · unfold sRm1
          rw [if_neg z]
          exact hF
    obtain ⟨τ1, a1, a2, a3⟩ := one
    rw [a1]
    unfold fm_steps_167
    rw [n1, jAdd]
    obtain ⟨τ', b1, b2, b3⟩ := ih (r + 1) n τ1 (sRm1 w s i r F) (by omega) (by omega) (hW.fr a3 (by decide)) (hm.fr a3 (by decide)) a2 (sRm1_b hi r hb)
    exact ⟨τ', b1, b2, a3.tr b3⟩
theorem fm_rnds_l (hw : Wd.ok w) (hs : St.ok w s) {x1 : Int32} : ∀ (e i n : Nat) (τ : mS) (F : Fs), i + e = w.R → e < n → MWd τ w → MSt τ w.T s → MFar τ w.R F → Fb F → ∃ τ', fm_steps_78 n τ x1 (nI i) = (if x1 < 0 ∨ 12 ≤ x1.toNatClampNeg then none else if (τ'.2.2.1 50 x1.toNatClampNeg) = (-1 : Int32) then fm_steps_195 τ' x1 (3 : Int32) else fm_steps_195 τ' x1 (0 : Int32)) ∧ MFar τ' w.R (sRnds w s e i F) ∧ mFr [50] τ τ' := by
  have hR := hw.1.2.1
  intro e
  induction e with
  | zero =>
    intro i n τ F hr hn hW hm hF hb
    obtain ⟨n, rfl⟩ : ∃ m, n = m + 1 := ⟨n - 1, by omega⟩
    refine ⟨τ, ?_, hF, mFr.rf _ _⟩
    rw [show fm_steps_78 (n + 1) τ x1 (nI i) = if (τ.1 9) ≤ nI i then (if x1 < 0 ∨ 12 ≤ x1.toNatClampNeg then none else if (τ.2.2.1 50 x1.toNatClampNeg) = (-1 : Int32) then fm_steps_195 τ x1 (3 : Int32) else fm_steps_195 τ x1 (0 : Int32)) else _ from rfl]
    rw [hW.1.2.1]
    exact if_pos (show nI w.R ≤ nI i by rw [jLe (by omega) (by omega)]; omega)
  | succ e ih =>
    intro i n τ F hr hn hW hm hF hb
    obtain ⟨n, rfl⟩ : ∃ m, n = m + 1 := ⟨n - 1, by omega⟩
    rw [show fm_steps_78 (n + 1) τ x1 (nI i) = if (τ.1 9) ≤ nI i then _ else fm_steps_88 (fm_steps_78 n) 3000 τ x1 (nI i) (nI 0) from rfl]
    rw [hW.1.2.1, if_neg (show ¬ nI w.R ≤ nI i by rw [jLe (by omega) (by omega)]; omega)]
    obtain ⟨τ1, a1, a2, a3⟩ := fm_rnd_l hw hs (K78 := fm_steps_78 n) (x1 := x1) (i := i) (by omega) w.R 0 3000 τ F (by omega) (by omega) hW hm hF hb
    rw [a1]
    obtain ⟨τ', b1, b2, b3⟩ := ih (i + 1) n τ1 (sRnd w s i w.R 0 F) (by omega) (by omega) (hW.fr a3 (by decide)) (hm.fr a3 (by decide)) a2 (sRnd_b (by omega) _ _ hb)
    exact ⟨τ', b1, b2, a3.tr b3⟩
def sF0 (s : St) : Fs := fun r => if r = s.rm then some 0 else none
theorem sF0_b (s : St) : Fb (sF0 s) := fun y v h => by
  unfold sF0 at h
  split at h
  · cases h; omega
  · cases h
theorem fm_far0_l (hw : Wd.ok w) (hs : St.ok w s) {x1 : Int32} : ∀ (e r n : Nat) (τ : mS), r + e = w.R → e < n → MWd τ w → MSt τ w.T s → (∀ y, y < r → τ.2.2.1 50 y = oI (sF0 s y)) → ∃ τ', fm_steps_43 n τ x1 (nI r) = fm_steps_78 3000 τ' x1 (nI 0) ∧ MFar τ' w.R (sF0 s) ∧ mFr [50] τ τ' := by
  have hR := hw.1.2.1
  have hrm := hs.1
  intro e
  induction e with
  | zero =>
    intro r n τ hr hn hW hm hy
    obtain ⟨n, rfl⟩ : ∃ m, n = m + 1 := ⟨n - 1, by omega⟩
    refine ⟨τ, ?_, fun y h => hy y (by omega), mFr.rf _ _⟩
    rw [show fm_steps_43 (n + 1) τ x1 (nI r) = if (τ.1 9) ≤ nI r then fm_steps_78 3000 τ x1 (nI 0) else _ from rfl]
    rw [hW.1.2.1]
    exact if_pos (show nI w.R ≤ nI r by rw [jLe (by omega) (by omega)]; omega)
  | succ e ih =>
    intro r n τ hr hn hW hm hy
    obtain ⟨n, rfl⟩ : ∃ m, n = m + 1 := ⟨n - 1, by omega⟩
    rw [show fm_steps_43 (n + 1) τ x1 (nI r) = if (τ.1 9) ≤ nI r then fm_steps_78 3000 τ x1 (nI 0) else if nI r = (τ.1 35) then fm_steps_69 (fm_steps_43 n) τ x1 (nI r) (0 : Int32) (nI r) else fm_steps_69 (fm_steps_43 n) τ x1 (nI r) (-1 : Int32) (nI r) from rfl]
    rw [hW.1.2.1, if_neg (show ¬ nI w.R ≤ nI r by rw [jLe (by omega) (by omega)]; omega), hm.1]
    have one : ∀ v, v = oI (sF0 s r) → ∃ τ', fm_steps_69 (fm_steps_43 n) τ x1 (nI r) v (nI r) = fm_steps_78 3000 τ' x1 (nI 0) ∧ MFar τ' w.R (sF0 s) ∧ mFr [50] τ τ' := by
      intro v hv
      unfold fm_steps_69
      rw [if_neg (iN0 (show r < 12 by omega) (by omega)), jCl (by omega), n1, jAdd]
      have f : mFr [50] τ (mA τ 50 r v) := mFr.A (List.mem_singleton.mpr rfl)
      obtain ⟨τ', a1, a2, a3⟩ := ih (r + 1) n (mA τ 50 r v) (by omega) (by omega) (hW.fr f (by decide)) (hm.fr f (by decide)) (fun y hy2 => by
        rw [mA_at]
        by_cases z : y = r
        · rw [if_pos z, hv, z]
        · rw [if_neg z]
          exact hy y (by omega))
      exact ⟨τ', a1, a2, f.tr a3⟩
    by_cases z : r = s.rm
    · rw [if_pos (show nI r = nI s.rm by rw [z])]
      exact one 0 (by unfold sF0; rw [if_pos z]; rfl)
    · rw [if_neg (show ¬ nI r = nI s.rm from fun h => z ((jEq (by omega) (by omega)).mp h))]
      exact one (-1) (by unfold sF0; rw [if_neg z]; rfl)
end U20
