/-! A further node: the reference's side. -/
def ownN (n k i : Nat) : Prop := (k ∈ [21, 25, 27, 28, 29, 30, 32] ∧ i = n) ∨ (k ∈ [22, 23, 24] ∧ 12 * n ≤ i ∧ i < 12 * n + 12) ∨ (k = 26 ∧ 30 * n ≤ i ∧ i < 30 * n + 30) ∨ (k = 31 ∧ 8 * n ≤ i ∧ i < 8 * n + 8)
/-- nothing but the cells of node n is changed -/
def mNx (n : Nat) (τ τ' : mS) : Prop := τ'.1 = τ.1 ∧ τ'.2.1 = τ.2.1 ∧ ∀ k i, ¬ ownN n k i → τ'.2.2.1 k i = τ.2.2.1 k i ∧ τ'.2.2.2 k i = τ.2.2.2 k i
theorem mNx.rf (n : Nat) (τ : mS) : mNx n τ τ := ⟨rfl, rfl, fun _ _ _ => ⟨rfl, rfl⟩⟩
theorem mNx.tr {n : Nat} {a b c : mS} (h : mNx n a b) (h2 : mNx n b c) : mNx n a c := ⟨h2.1.trans h.1, h2.2.1.trans h.2.1, fun k i q => ⟨((h2.2.2 k i q).1).trans (h.2.2 k i q).1, ((h2.2.2 k i q).2).trans (h.2.2 k i q).2⟩⟩
theorem mNx.A {n : Nat} {τ : mS} {k i : Nat} {v : Int32} (h : ownN n k i) : mNx n τ (mA τ k i v) := ⟨rfl, rfl, fun j x q => by
  refine ⟨?_, rfl⟩
  by_cases e : j = k
  · subst e
    rw [mA_at]
    rw [if_neg (fun z => q (by rw [z]; exact h))]
  · rw [mA_ne _ _ _ e]⟩
theorem mL_at (σ : mS) (k i : Nat) (v : Int64) (j : Nat) : (mL σ k i v).2.2.2 k j = if j = i then v else σ.2.2.2 k j := by
  show (if k = k then vp_updL (σ.2.2.2 k) i v else σ.2.2.2 k) j = _
  rw [if_pos rfl]
  rfl
theorem mL_ne (σ : mS) {k k' : Nat} (i : Nat) (v : Int64) (h : k' ≠ k) : (mL σ k i v).2.2.2 k' = σ.2.2.2 k' := if_neg h
theorem mNx.L {n : Nat} {τ : mS} {k i : Nat} {v : Int64} (h : ownN n k i) : mNx n τ (mL τ k i v) := ⟨rfl, rfl, fun j x q => by
  refine ⟨rfl, ?_⟩
  by_cases e : j = k
  · subst e
    rw [mL_at]
    rw [if_neg (fun z => q (by rw [z]; exact h))]
  · rw [mL_ne _ _ _ e]⟩
theorem mNx.fr {n : Nat} {τ τ' : mS} (h : mNx n τ τ') : mFr [21, 22, 23, 24, 25, 26, 27, 28, 29, 30, 31, 32] τ τ' := fun k hk => by
  have no : ∀ i, ¬ ownN n k i := by
    intro i hi
    unfold ownN at hi
    simp at hi hk
    omega
  exact ⟨by rw [h.1], by rw [h.2.1], funext fun i => (h.2.2 k i (no i)).1, funext fun i => (h.2.2 k i (no i)).2⟩
theorem MSt.fr {ks : List Nat} {τ τ' : mS} {T : Nat} {s : St} (h : MSt τ T s) (hf : mFr ks τ τ') (hk : ∀ k ∈ ([35, 36, 37, 38] : List Nat), k ∉ ks) : MSt τ' T s := by
  unfold MSt
  rw [(hf 35 (hk 35 (by decide))).1, (hf 36 (hk 36 (by decide))).2.2.1, (hf 37 (hk 37 (by decide))).2.2.1, (hf 38 (hk 38 (by decide))).2.2.1]
  exact h
section A18
variable {w : Wd} {l : List Nat} {s : St} {n : Nat}
theorem fm_comes_s1 (hl : isTx l) (hn : n < 80) : ∀ (d k f : Nat) (τ : mS), k + d = l.length → d < f → MTx τ l → (∀ j, j < k → τ.2.2.1 26 (30 * n + j) = nI (l.getD j 0)) → τ.1 33 = nI n → ∃ τ', fm_comes_176 f τ (nI n) (nI k) = some (mI (mI τ' 33 (nI (n + 1))) 34 (nI n)) ∧ mNx n τ τ' ∧ (∀ j, j < l.length → τ'.2.2.1 26 (30 * n + j) = nI (l.getD j 0)) ∧ ∀ k, k ≠ 26 → τ'.2.2.1 k = τ.2.2.1 k ∧ τ'.2.2.2 k = τ.2.2.2 k := by
  have h30 := hl.1
  intro d
  induction d with
  | zero =>
    intro k f τ hk hf hX h6 h33
    obtain ⟨f, rfl⟩ : ∃ k, f = k + 1 := ⟨f - 1, by omega⟩
    rw [fm_comes_176, hX.1, if_pos (by rw [jLe (by omega) (by omega)]; omega), h33, n1, jAdd]
    exact ⟨τ, rfl, mNx.rf _ _, fun j hj => h6 j (by omega), fun _ _ => ⟨rfl, rfl⟩⟩
  | succ d ih =>
    intro k f τ hk hf hX h6 h33
    obtain ⟨f, rfl⟩ : ∃ k, f = k + 1 := ⟨f - 1, by omega⟩
    have x1 : ¬ l.length ≤ k := by omega
    have x2 : ¬ 2400 ≤ 30 * n + k := by omega
    have x3 : ¬ 30 ≤ k := by omega
    have c1 : (nI (30 * n + k)).toNatClampNeg = 30 * n + k := jCl (by omega)
    have c2 : (nI k).toNatClampNeg = k := jCl (by omega)
    have e2 := hX.2 k (by omega)
    rw [fm_comes_176, hX.1]
    simp (disch := omega) only [show ((30 : Int32) = nI 30) from rfl, n0, n1, jMul, jAdd, jLe, jLt, x1, x2, x3, c1, c2, e2, Nat.not_lt_zero, false_or, if_false]
    have own : ownN n 26 (30 * n + k) := Or.inr (Or.inr (Or.inl ⟨rfl, by omega, by omega⟩))
    have hx1 : mNx n τ (mA τ 26 (30 * n + k) (nI (l.getD k 0))) := mNx.A own
    obtain ⟨τ', g1, g2, g3, g4⟩ := ih (k + 1) f (mA τ 26 (30 * n + k) (nI (l.getD k 0))) (by omega) (by omega) (hX.fr hx1.fr (by decide) (by decide)) (fun j hj => by
      rw [mA_at]
      by_cases q : j = k
      · rw [if_pos (by omega), q]
      · rw [if_neg (by omega)]; exact h6 j (by omega)) h33
    refine ⟨τ', g1, hx1.tr g2, g3, fun k' hk' => ⟨?_, (g4 k' hk').2⟩⟩
    rw [(g4 k' hk').1, mA_ne _ _ _ hk']
/-- the cells that fm_comes writes behind the state, before the signs -/
def cmA (τ : mS) (n : Nat) (pa how num len : Int32) : mS := mA (mA (mA (mA (mA (mA τ 25 n pa) 28 n how) 29 n num) 27 n len) 32 n (-1)) 31 (8 * n) 0
theorem cmA_x (τ : mS) {n : Nat} (pa how num len : Int32) : mNx n τ (cmA τ n pa how num len) := by
  have o1 : ∀ k, k ∈ [21, 25, 27, 28, 29, 30, 32] → ownN n k n := fun k hk => Or.inl ⟨hk, rfl⟩
  exact (((((mNx.A (o1 25 (by decide))).tr (mNx.A (o1 28 (by decide)))).tr (mNx.A (o1 29 (by decide)))).tr (mNx.A (o1 27 (by decide)))).tr (mNx.A (o1 32 (by decide)))).tr (mNx.A (Or.inr (Or.inr (Or.inr ⟨rfl, by omega, by omega⟩))))
theorem cmA_g (τ : mS) (n : Nat) (pa how num len : Int32) : (cmA τ n pa how num len).2.2.1 25 n = pa ∧ (cmA τ n pa how num len).2.2.1 28 n = how ∧ (cmA τ n pa how num len).2.2.1 29 n = num ∧ (cmA τ n pa how num len).2.2.1 27 n = len ∧ (cmA τ n pa how num len).2.2.1 32 n = -1 ∧ (cmA τ n pa how num len).2.2.1 31 (8 * n) = 0 ∧ (cmA τ n pa how num len).2.2.1 21 = τ.2.2.1 21 ∧ (cmA τ n pa how num len).2.2.1 22 = τ.2.2.1 22 ∧ (cmA τ n pa how num len).2.2.1 23 = τ.2.2.1 23 ∧ (cmA τ n pa how num len).2.2.1 24 = τ.2.2.1 24 ∧ (cmA τ n pa how num len).2.2.2 = τ.2.2.2 := by
  unfold cmA
  refine ⟨?_, ?_, ?_, ?_, ?_, ?_, ?_, ?_, ?_, ?_, rfl⟩
  · rw [mA_ne _ _ _ (by decide), mA_ne _ _ _ (by decide), mA_ne _ _ _ (by decide), mA_ne _ _ _ (by decide), mA_ne _ _ _ (by decide), mA_at, if_pos rfl]
  · rw [mA_ne _ _ _ (by decide), mA_ne _ _ _ (by decide), mA_ne _ _ _ (by decide), mA_ne _ _ _ (by decide), mA_at, if_pos rfl]
  · rw [mA_ne _ _ _ (by decide), mA_ne _ _ _ (by decide), mA_ne _ _ _ (by decide), mA_at, if_pos rfl]
  · rw [mA_ne _ _ _ (by decide), mA_ne _ _ _ (by decide), mA_at, if_pos rfl]
  · rw [mA_ne _ _ _ (by decide), mA_at, if_pos rfl]
  · rw [mA_at, if_pos rfl]
  all_goals rw [mA_ne _ _ _ (by decide), mA_ne _ _ _ (by decide), mA_ne _ _ _ (by decide), mA_ne _ _ _ (by decide), mA_ne _ _ _ (by decide), mA_ne _ _ _ (by decide)]
theorem fm_comes_131_e {τ : mS} (hn : n < 80) (how num pa : Int32) (hX : τ.1 2 = nI l.length) : fm_comes_131 τ how num (nI n) pa (nI n) = fm_comes_176 3000 (cmA τ n pa how num (nI l.length)) (nI n) (nI 0) := by
  have x1 : ¬ 80 ≤ n := by omega
  have x2 : ¬ 640 ≤ 8 * n := by omega
  have c1 : (nI n).toNatClampNeg = n := jCl (by omega)
  have c2 : (nI (8 * n)).toNatClampNeg = 8 * n := jCl (by omega)
  have y : (nI n < (0 : Int32) ∨ False) = False := by
    rw [n0, jLt (by omega) (by omega)]
    simp
  have y2 : (nI (8 * n) < (0 : Int32) ∨ False) = False := by
    rw [n0, jLt (by omega) (by omega)]
    simp
  have e2 : (mA (mA (mA τ 25 n pa) 28 n how) 29 n num).1 2 = nI l.length := hX
  unfold fm_comes_131 cmA
  simp only [show ((8 : Int32) = nI 8) from rfl, jMul, c1, c2, x1, x2, y, y2, if_false, e2]
  rfl
theorem fm_comes_l (hw : Wd.ok w) (hl : isTx l) (hs : St.ok w s) (hn : n < 80) {how num : Int32} {p : Nat} {sg : Int64} (hp : 0 < n → p < n) : ∀ (d x f : Nat) (τ : mS), x + d = w.T → d < f → MWd τ w → MSt τ w.T s → MTx τ l → τ.1 33 = nI n → τ.1 34 = nI p → τ.2.1 39 = sg → τ.2.2.1 21 n = nI s.rm → (∀ y, y < x → τ.2.2.1 22 (12 * n + y) = nI (s.pl y) ∧ τ.2.2.1 24 (12 * n + y) = nI (s.fu y) ∧ τ.2.2.1 23 (12 * n + y) = bI (s.on y)) → ∃ τ', fm_comes_29 f τ how num (nI n) (nI x) = some (mI (mI τ' 33 (nI (n + 1))) 34 (nI n)) ∧ mNx n τ τ' ∧ MNd τ' w.T n s ∧ (τ'.2.2.1 25 n = (if n = 0 then -nI 1 else nI p) ∧ τ'.2.2.1 28 n = how ∧ τ'.2.2.1 29 n = num ∧ τ'.2.2.1 27 n = nI l.length ∧ τ'.2.2.1 32 n = -nI 1 ∧ τ'.2.2.1 31 (8 * n) = nI 0 ∧ τ'.2.2.2 30 n = (sg ||| sShown w s)) ∧ ∀ j, j < l.length → τ'.2.2.1 26 (30 * n + j) = nI (l.getD j 0) := by
  have hT : w.T ≤ 12 := hw.1.2.2.1
  have c0 : (nI n).toNatClampNeg = n := jCl (by omega)
  have x0 : ¬ 80 ≤ n := by omega
  intro d
  induction d with
  | zero =>
    intro x f τ hx hf hW hm hX h33 h34 h39 h21 hy
    obtain ⟨f, rfl⟩ : ∃ k, f = k + 1 := ⟨f - 1, by omega⟩
    have x1 : w.T ≤ x := by omega
    have own30 : ownN n 30 n := Or.inl ⟨by decide, rfl⟩
    have hx1 : mNx n τ (mL τ 30 n (sg ||| sShown w s)) := mNx.L own30
    have tail : ∀ pa : Int32, ∃ τ', fm_comes_131 (mL τ 30 n (sg ||| sShown w s)) how num (nI n) pa (nI n) = some (mI (mI τ' 33 (nI (n + 1))) 34 (nI n)) ∧ mNx n τ τ' ∧ MNd τ' w.T n s ∧ (τ'.2.2.1 25 n = pa ∧ τ'.2.2.1 28 n = how ∧ τ'.2.2.1 29 n = num ∧ τ'.2.2.1 27 n = nI l.length ∧ τ'.2.2.1 32 n = -nI 1 ∧ τ'.2.2.1 31 (8 * n) = nI 0 ∧ τ'.2.2.2 30 n = (sg ||| sShown w s)) ∧ ∀ j, j < l.length → τ'.2.2.1 26 (30 * n + j) = nI (l.getD j 0) := by
      intro pa
      have hX2 : (mL τ 30 n (sg ||| sShown w s)).1 2 = nI l.length := hX.1
      have hx2 := cmA_x (mL τ 30 n (sg ||| sShown w s)) (n := n) pa how num (nI l.length)
      obtain ⟨g1, g2, g3, g4, g5, g6, g7, g8, g9, g10, g11⟩ := cmA_g (mL τ 30 n (sg ||| sShown w s)) n pa how num (nI l.length)
      obtain ⟨τ', h1, h2, h3, h4⟩ := fm_comes_s1 hl hn l.length 0 3000 (cmA (mL τ 30 n (sg ||| sShown w s)) n pa how num (nI l.length)) (by omega) (by have := hl.1; omega) (hX.fr (hx1.tr hx2).fr (by decide) (by decide)) (fun j hj => by omega) h33
      refine ⟨τ', by rw [fm_comes_131_e hn how num pa hX2]; exact h1, (hx1.tr hx2).tr h2, ?_, ⟨?_, ?_, ?_, ?_, ?_, ?_, ?_⟩, h3⟩
      · refine ⟨?_, fun y hyT => ?_⟩
        · rw [(h4 21 (by decide)).1, g7]; exact h21
        · rw [(h4 22 (by decide)).1, (h4 23 (by decide)).1, (h4 24 (by decide)).1, g8, g9, g10]
          exact hy y (by omega)
      · rw [(h4 25 (by decide)).1]; exact g1
      · rw [(h4 28 (by decide)).1]; exact g2
      · rw [(h4 29 (by decide)).1]; exact g3
      · rw [(h4 27 (by decide)).1]; exact g4
      · rw [(h4 32 (by decide)).1]; exact g5
      · rw [(h4 31 (by decide)).1]; exact g6
      · rw [(h4 30 (by decide)).2, g11, mL_at, if_pos rfl]
    rw [fm_comes_29, hW.1.2.2.1, if_pos (by rw [jLe (by omega) (by omega)]; exact x1), fm_showsNow_s hw hW hs hm, Option.bind_some, h39]
    have y : (nI n < (0 : Int32) ∨ False) = False := by
      rw [n0, jLt (by omega) (by omega)]
      simp
    simp only [c0, x0, y, if_false]
    have e33 : (mL τ 30 n (sg ||| sShown w s)).1 33 = nI n := h33
    have e34 : (mL τ 30 n (sg ||| sShown w s)).1 34 = nI p := h34
    rw [e33, e34]
    by_cases q : n = 0
    · rw [if_pos (by rw [q]; decide)]
      simp only [if_pos q]
      exact tail (-1)
    · rw [if_neg (show ¬ nI n ≤ 0 by rw [n0, jLe (by omega) (by omega)]; omega)]
      simp only [if_neg q]
      exact tail (nI p)
  | succ d ih =>
    intro x f τ hx hf hW hm hX h33 h34 h39 h21 hy
    obtain ⟨f, rfl⟩ : ∃ k, f = k + 1 := ⟨f - 1, by omega⟩
    have x1 : ¬ w.T ≤ x := by omega
    have x2 : ¬ 12 ≤ x := by omega
    have x3 : ¬ 960 ≤ 12 * n + x := by omega
    have c1 : (nI x).toNatClampNeg = x := jCl (by omega)
    have c2 : (nI (12 * n + x)).toNatClampNeg = 12 * n + x := jCl (by omega)
    obtain ⟨m36, m38, m37⟩ := hm.2 x (by omega)
    rw [fm_comes_29, hW.1.2.2.1, if_neg (by rw [jLe (by omega) (by omega)]; exact x1)]
    have y1 : (nI x < (0 : Int32) ∨ False) = False := by
      rw [n0, jLt (by omega) (by omega)]
      simp
    have y2 : (nI (12 * n + x) < (0 : Int32) ∨ False) = False := by
      rw [n0, jLt (by omega) (by omega)]
      simp
    have e37 : (mA τ 22 (12 * n + x) (nI (s.pl x))).2.2.1 37 x = bI (s.on x) := by rw [mA_ne _ _ _ (by decide)]; exact m37
    have e38 : (mA (mA τ 22 (12 * n + x) (nI (s.pl x))) 23 (12 * n + x) (bI (s.on x))).2.2.1 38 x = nI (s.fu x) := by rw [mA_ne _ _ _ (by decide), mA_ne _ _ _ (by decide)]; exact m38
    simp only [n12, jMul, jAdd, c1, c2, x2, x3, y1, y2, if_false, m36, e37]
    rw [show (bI (s.on x) &&& 1) = bI (s.on x) from bI_z _, e38, n1, jAdd]
    have o1 : ∀ k, k ∈ [22, 23, 24] → ownN n k (12 * n + x) := fun k hk => Or.inr (Or.inl ⟨hk, by omega, by omega⟩)
    have hx1 : mNx n τ (mA (mA (mA τ 22 (12 * n + x) (nI (s.pl x))) 23 (12 * n + x) (bI (s.on x))) 24 (12 * n + x) (nI (s.fu x))) := ((mNx.A (o1 22 (by decide))).tr (mNx.A (o1 23 (by decide)))).tr (mNx.A (o1 24 (by decide)))
    obtain ⟨τ', g1, g2, g3, g4, g5⟩ := ih (x + 1) f (mA (mA (mA τ 22 (12 * n + x) (nI (s.pl x))) 23 (12 * n + x) (bI (s.on x))) 24 (12 * n + x) (nI (s.fu x))) (by omega) (by omega) (hW.fr hx1.fr (by decide)) (hm.fr hx1.fr (by decide)) (hX.fr hx1.fr (by decide) (by decide)) h33 h34 h39 (by rw [mA_ne _ _ _ (by decide), mA_ne _ _ _ (by decide), mA_ne _ _ _ (by decide)]; exact h21) (fun y hyx => by
      have a22 : (mA (mA (mA τ 22 (12 * n + x) (nI (s.pl x))) 23 (12 * n + x) (bI (s.on x))) 24 (12 * n + x) (nI (s.fu x))).2.2.1 22 (12 * n + y) = if 12 * n + y = 12 * n + x then nI (s.pl x) else τ.2.2.1 22 (12 * n + y) := by
        rw [mA_ne _ _ _ (by decide), mA_ne _ _ _ (by decide), mA_at]
      have a23 : (mA (mA (mA τ 22 (12 * n + x) (nI (s.pl x))) 23 (12 * n + x) (bI (s.on x))) 24 (12 * n + x) (nI (s.fu x))).2.2.1 23 (12 * n + y) = if 12 * n + y = 12 * n + x then bI (s.on x) else τ.2.2.1 23 (12 * n + y) := by
        rw [mA_ne _ _ _ (by decide), mA_at, mA_ne _ _ _ (by decide)]
      have a24 : (mA (mA (mA τ 22 (12 * n + x) (nI (s.pl x))) 23 (12 * n + x) (bI (s.on x))) 24 (12 * n + x) (nI (s.fu x))).2.2.1 24 (12 * n + y) = if 12 * n + y = 12 * n + x then nI (s.fu x) else τ.2.2.1 24 (12 * n + y) := by
        rw [mA_at, mA_ne _ _ _ (by decide), mA_ne _ _ _ (by decide)]
      rw [a22, a23, a24]
      by_cases q : y = x
      · rw [if_pos (by rw [q]), if_pos (by rw [q]), if_pos (by rw [q]), q]
        exact ⟨rfl, rfl, rfl⟩
      · rw [if_neg (by omega), if_neg (by omega), if_neg (by omega)]
        exact hy y (by omega))
    exact ⟨τ', g1, hx1.tr g2, g3, g4, g5⟩
end A18
