/-! The whole relation between class and reference. -/
/-- the shop: hints, sales; coins, what was earned; bases, what hints teach; a sale's hint, node and coins -/
abbrev Sp : Type := (Nat × Nat) × (Int32 × Int32) × (Nat → Int32) × (Nat → Int64) × (Nat → Nat) × (Nat → Nat) × (Nat → Int32)
def Sp.H (p : Sp) : Nat := p.1.1
def Sp.S (p : Sp) : Nat := p.1.2
def Sp.co (p : Sp) : Int32 := p.2.1.1
def Sp.ea (p : Sp) : Int32 := p.2.1.2
def Sp.ba (p : Sp) : Nat → Int32 := p.2.2.1
def Sp.te (p : Sp) : Nat → Int64 := p.2.2.2.1
def Sp.sh (p : Sp) : Nat → Nat := p.2.2.2.2.1
def Sp.sn (p : Sp) : Nat → Nat := p.2.2.2.2.2.1
def Sp.sc (p : Sp) : Nat → Int32 := p.2.2.2.2.2.2
/-- what was paid for the first n sales -/
def Sp.paid (p : Sp) : Nat → Int32
  | 0 => 0
  | n + 1 => Sp.paid p n + p.sc n
def Sp.ok (w : Wd) (t : Tr) (p : Sp) : Prop :=
  (p.H ≤ 12 ∧ p.S ≤ t.N) ∧ (∀ h, wset w.W (p.te h) ∧ sBits (p.te h) ≤ 6) ∧ (∀ h, p.H ≤ h → p.te h = 0) ∧
  (∀ s, s < p.S → p.sh s < p.H ∧ 0 < p.sn s ∧ p.sn s < t.N) ∧
  (∀ i j, i < j → j < p.S → p.sh i = p.sh j → sOnP t (p.sn i) (p.sn j) = false ∧ sOnP t (p.sn j) (p.sn i) = false) ∧
  (∀ n, 0 < n → n < t.N → (t.cm n).1 = 12 → ∃ s, s < p.S ∧ p.sn s = n ∧ t.cm n = (12, some (p.sh s), none)) ∧
  p.paid p.S + p.co = 100 + p.ea
def MSp (τ : mS) (p : Sp) : Prop :=
  (τ.1 45 = nI p.H ∧ τ.1 46 = p.co ∧ τ.1 49 = nI p.S) ∧ (∀ h, h < p.H → τ.2.2.1 43 h = p.ba h) ∧ (∀ h, h < 12 → τ.2.2.2 44 h = p.te h) ∧
  ∀ s, s < p.S → τ.2.2.1 47 s = nI (p.sn s) ∧ τ.2.2.1 48 s = p.sc s ∧ τ.2.2.1 32 (p.sn s) = nI (p.sh s)
def CSp (σ : cS) (p : Sp) : Prop :=
  (cI σ 5 0 2 = nI p.H ∧ cI σ 5 0 4 = p.co ∧ cI σ 5 0 5 = p.ea ∧ CLs σ 1 p.S 9 ∧ cn σ 9 = p.S) ∧ (∀ h, h < p.H → cI σ 12 12 h = p.ba h) ∧ (∀ h, h < 12 → cJ σ 15 3 h = p.te h) ∧
  ∀ s, s < p.S → cI σ 9 s 0 = nI (p.sh s) ∧ cR σ 9 s 1 = some (p.sn s) ∧ cI σ 9 s 2 = p.sc s
/-- a node's state is what its command makes of its parent's -/
def rpl (w : Wd) (t : Tr) (n : Nat) : Prop :=
  ((t.cm n).1 < 12 → sKnw (sKn t (t.par n)) (t.cm n) = true ∧ ∃ s', sDo w (t.st (t.par n)) (t.cm n) = some s' ∧ t.st n = sBurn w s') ∧
  ((t.cm n).1 = 12 ∨ (t.cm n).1 = 13 → t.st n = sBurn w (t.st (t.par n))) ∧
  ((t.cm n).1 = 14 → ∃ m, (t.cm n).2.1 = some m ∧ m < t.N ∧ 0 < (sPk w (t.st m) (sLight w (t.st (t.par n))) w.T 0 0 (t.st (t.par n))).1 ∧ t.st n = sBurn w (sPk w (t.st m) (sLight w (t.st (t.par n))) w.T 0 0 (t.st (t.par n))).2)
abbrev Gm : Type := Wd × List Nat × Tr × Sp
def Gm.w (g : Gm) : Wd := g.1
def Gm.l (g : Gm) : List Nat := g.2.1
def Gm.t (g : Gm) : Tr := g.2.2.1
def Gm.p (g : Gm) : Sp := g.2.2.2
def Gm.ok (g : Gm) : Prop :=
  Wd.ok g.w ∧ isTx g.l ∧ Tr.ok g.w g.t ∧ Sp.ok g.w g.t g.p ∧
  (∀ n, 0 < n → n < g.t.N → cmQ g.w (g.t.cm n) ∧ (12 ≤ (g.t.cm n).1 → (g.t.cm n).1 ≤ 13 → ∀ b, (g.t.cm n).2.1 = some b → b < g.p.H) ∧ rpl g.w g.t n) ∧
  (0 < g.t.N → g.t.cm 0 = (0, some (g.t.st 0).rm, none) ∧ (g.t.st 0).rm < g.w.R ∧ g.t.st 0 = sStart g.w (g.t.st 0).rm)
def MR (τ : mS) (g : Gm) : Prop := MWd τ g.w ∧ MTx τ g.l ∧ MTr τ g.w g.t ∧ MCs τ g.w g.t ∧ MNm τ g.t ∧ MSp τ g.p
/-- the builder of lines, and the row of distances, as they always are -/
def SBi (σ : cS) : Prop := (cln σ 12 10 = 12 ∧ ¬ cI σ 11 0 3 < 0 ∧ cI σ 11 0 1 = 0) ∧ ∃ b, cR σ 11 0 0 = some b ∧ b < cn σ 16 ∧ (cln σ 16 b = 16 ∨ cln σ 16 b = 34 ∨ cln σ 16 b = 70 ∨ cln σ 16 b = 142) ∧ ∀ f, f < cln σ 16 b → (cI σ 16 b f).toInt8.toInt32 = cI σ 16 b f
theorem SBi.fr {ps : List (Nat × Nat)} {σ σ' : cS} (h : SBi σ) (hL : cLbs σ) (hf : cFr ps σ σ') (hp : ∀ q ∈ ps, q.1 ≠ 11 ∧ q.1 ≠ 16) : SBi σ' := by
  obtain ⟨⟨a1, a2, a3⟩, b, b1, b2, b3, b4⟩ := h
  obtain ⟨x1, -, x3⟩ := (hf.2 11 0 (Nat.lt_of_lt_of_le (by decide) (hL 11 (by decide)))).2.2 (fun h => (hp _ h).1 rfl)
  obtain ⟨y0, -, y1⟩ := hf.2 16 b b2
  obtain ⟨z1, -, -⟩ := y1 (fun h => (hp _ h).2 rfl)
  refine ⟨⟨by rw [(hf.2 12 10 (Nat.lt_of_lt_of_le (by decide) (hL 12 (by decide)))).1]; exact a1, by rw [x1]; exact a2, by rw [x1]; exact a3⟩, b, by rw [x3]; exact b1, Nat.lt_of_lt_of_le b2 (hf.1 16), by rw [y0]; exact b3, fun f hf' => ?_⟩
  rw [y0] at hf'
  rw [z1]
  exact b4 f hf'
def CR (σ : cS) (g : Gm) : Prop := CWd σ g.w ∧ CTx σ g.l ∧ CTr σ g.t ∧ CSp σ g.p ∧ (CEx σ ∧ SBi σ) ∧ cLbs σ ∧ 15 ≤ cn σ 18 ∧ ∃ s, RSt σ 0 s
/-- the class and the reference hold the same game -/
def Rel (g : Gm) (σ : cS) (τ : mS) : Prop := Gm.ok g ∧ CR σ g ∧ MR τ g
/-- an outcome of the class against the reference's answer and what it says is thrown; ex: the exceptions in the law's order -/
def Agr (ex : List Nat) (r : Nat ⊕ Int32) (v th : Int32) : Prop := match r with
  | .inr x => th = nI 0 ∧ x = v
  | .inl c => ∃ j, ex[j]? = some c ∧ th = nI (j + 1)
/-- a method keeps the relation and answers alike -/
def Alk (ex : List Nat) (g : Gm) (f : Option ((Nat ⊕ Int32) × cS)) (m : Option (Int32 × mS)) : Prop := ∃ g' r σ' v τ', f = some (r, σ') ∧ m = some (v, τ') ∧ Agr ex r v (τ'.1 0) ∧ Rel g' σ' τ'
def mRk : List Nat := [1, 2, 3, 4, 5, 6, 7, 8, 9, 10, 11, 12, 13, 14, 15, 16, 17, 18, 19, 20, 21, 22, 23, 24, 25, 26, 27, 28, 29, 30, 31, 32, 33, 34, 43, 44, 45, 46, 47, 48, 49]
theorem MTr.fr {ks : List Nat} {τ τ' : mS} {w : Wd} {t : Tr} (h : MTr τ w t) (hf : mFr ks τ τ') (hk : ∀ k ∈ ([20, 21, 22, 23, 24, 25, 30, 33, 34] : List Nat), k ∉ ks) : MTr τ' w t := by
  obtain ⟨⟨h1, h2, h3⟩, h4⟩ := h
  refine ⟨⟨by rw [(hf 33 (hk 33 (by decide))).1]; exact h1, by rw [(hf 34 (hk 34 (by decide))).1]; exact h2, by rw [(hf 20 (hk 20 (by decide))).1]; exact h3⟩, ?_⟩
  have h5 : MNs τ w t := h4
  exact h5.fr hf (fun k hk' => hk k (by revert k; decide))
theorem MSp.fr {ks : List Nat} {τ τ' : mS} {p : Sp} (h : MSp τ p) (hf : mFr ks τ τ') (hk : ∀ k ∈ ([32, 43, 44, 45, 46, 47, 48, 49] : List Nat), k ∉ ks) : MSp τ' p := by
  unfold MSp
  rw [(hf 45 (hk 45 (by decide))).1, (hf 46 (hk 46 (by decide))).1, (hf 49 (hk 49 (by decide))).1, (hf 43 (hk 43 (by decide))).2.2.1, (hf 44 (hk 44 (by decide))).2.2.2, (hf 47 (hk 47 (by decide))).2.2.1, (hf 48 (hk 48 (by decide))).2.2.1, (hf 32 (hk 32 (by decide))).2.2.1]
  exact h
theorem MR.fr {ks : List Nat} {τ τ' : mS} {g : Gm} (h : MR τ g) (hf : mFr ks τ τ') (hk : ∀ k ∈ mRk, k ∉ ks) : MR τ' g := by
  obtain ⟨h1, h2, h3, h4, h5, h6⟩ := h
  exact ⟨h1.fr hf (fun k q => hk k (by revert k; decide)), h2.fr hf (hk 1 (by decide)) (hk 2 (by decide)), h3.fr hf (fun k q => hk k (by revert k; decide)), h4.fr hf (fun k q => hk k (by revert k; decide)), h5.fr hf (hk 31 (by decide)), h6.fr hf (fun k q => hk k (by revert k; decide))⟩
theorem MR.th {τ : mS} {g : Gm} (h : MR τ g) (v : Int32) : MR (mI τ 0 v) g := h.fr (mFr.I (List.mem_singleton.mpr rfl)) (by decide)
theorem fm_isWrong_s (τ : mS) {k : Nat} (hk : k < 100000) : fm_isWrong τ (nI k) = some (bI (decide (0 < k)), mI τ 0 (nI k)) := by
  unfold fm_isWrong fm_isWrong_14
  by_cases q : k = 0
  · rw [if_pos (show nI k ≤ 0 by rw [q]; decide), decide_eq_false (by omega)]
    rfl
  · rw [if_neg (show ¬ nI k ≤ 0 by rw [n0, jLe hk (by omega)]; omega), decide_eq_true (by omega)]
    rfl
/-- cells of the class that nothing rests on -/
def cScr (σ : cS) (q : Nat × Nat) : Prop := q ∈ cSc 0 ∨ (q.1 = 8 ∧ cn σ 8 ≤ q.2) ∨ q = (12, 0) ∨ q = (12, 1) ∨ q = (12, 10) ∨ q.1 = 11 ∨ q.1 = 16
theorem CSp.fr {ps : List (Nat × Nat)} {σ σ' : cS} {p : Sp} (h : CSp σ p) (hf : cFr ps σ σ') (hL : cLbs σ) (h5 : (5, 0) ∉ ps) (h12 : (12, 12) ∉ ps) (h15 : (15, 3) ∉ ps) (h10 : (10, 1) ∉ ps) (h17 : ∀ e, cR σ 10 1 1 = some e → (17, e) ∉ ps) (h9 : ∀ s, s < p.S → (9, s) ∉ ps) (c9 : cn σ' 9 = cn σ 9) : CSp σ' p := by
  obtain ⟨⟨a1, a2, a3, a4, a5⟩, b, c, d⟩ := h
  have L := fun k i (hi : i < cLb.getD k 0) (hk : k < 18) => hf.2 k i (Nat.lt_of_lt_of_le hi (hL k hk))
  have e5 := ((L 5 0 (by decide) (by decide)).2.2 h5).1
  have e12 := ((L 12 12 (by decide) (by decide)).2.2 h12).1
  have e15 := ((L 15 3 (by decide) (by decide)).2.2 h15).2.1
  refine ⟨⟨by rw [e5]; exact a1, by rw [e5]; exact a2, by rw [e5]; exact a3, (a4.fr hf h10 h17).1, c9.trans a5⟩, by rw [e12]; exact b, by rw [e15]; exact c, fun s hs => ?_⟩
  obtain ⟨q1, -, q3⟩ := (hf.2 9 s (by rw [a5]; exact hs)).2.2 (h9 s hs)
  rw [q1, q3]
  exact d s hs
theorem CR.fr {ps : List (Nat × Nat)} {σ σ' : cS} {g : Gm} (h : CR σ g) (hf : cFr ps σ σ') (hp : ∀ q ∈ ps, cScr σ q) (c : ∀ k, k ≠ 8 → k ≠ 11 → k ≠ 16 → cn σ' k = cn σ k) (h0 : ∃ s, RSt σ' 0 s) (hsb : SBi σ') : CR σ' g := by
  obtain ⟨h1, h2, h3, h4, h5, h6, h7, h8⟩ := h
  have no : ∀ k i, ¬ cScr σ (k, i) → (k, i) ∉ ps := fun k i hn hq => hn (hp _ hq)
  have nz : ∀ k i, (k = 1 ∨ k = 2 ∨ k = 14 ∨ k = 15 ∨ k = 5 ∨ k = 10 ∨ k = 17 ∨ k = 9 ∨ k = 7 ∨ (k = 12 ∧ 2 ≤ i ∧ i ≤ 9) ∨ (k = 12 ∧ i = 12) ∨ (k = 13 ∧ i = 0)) → ¬ cScr σ (k, i) := by
    intro k i hk hz
    unfold cScr cSc at hz
    simp at hz
    omega
  refine ⟨h1.fr h6 hf (fun q hq hw => ?_), h2.fr h6 hf (no 1 0 (nz 1 0 (by omega))) (no 14 0 (nz 14 0 (by omega))), h3.fr hf h6 (fun q hq => ?_) (c 6 (by decide) (by decide) (by decide)) (c 7 (by decide) (by decide) (by decide)) (c 12 (by decide) (by decide) (by decide)) (c 13 (by decide) (by decide) (by decide)), h4.fr hf h6 (no 5 0 (nz 5 0 (by omega))) (no 12 12 (nz 12 12 (by omega))) (no 15 3 (nz 15 3 (by omega))) (no 10 1 (nz 10 1 (by omega))) (fun e _ => no 17 e (nz 17 e (by omega))) (fun s _ => no 9 s (nz 9 s (by omega))) (c 9 (by decide) (by decide) (by decide)), ⟨h5.1.fr hf h6 (no 10 0 (nz 10 0 (by omega))) (no 10 1 (nz 10 1 (by omega))), hsb⟩, h6.fr hf, Nat.le_trans h7 (hf.1 18), h0⟩
  · refine nz q.1 q.2 ?_ (hp q hq)
    unfold cWk at hw
    simp at hw
    rcases hw with rfl | rfl | rfl | rfl | rfl | rfl | rfl | rfl | rfl | rfl | rfl | rfl | rfl | rfl <;> simp
  · rcases hp q hq with h | h | h | h | h | h | h
    · exact Or.inl h
    · exact Or.inr (Or.inl h)
    · exact Or.inr (Or.inr (Or.inl h))
    · exact Or.inr (Or.inr (Or.inr (Or.inl h)))
    · exact Or.inr (Or.inr (Or.inr (Or.inr (Or.inr (Or.inr (Or.inr (Or.inr (Or.inr (Or.inr (Or.inl h))))))))))
    · exact Or.inr (Or.inr (Or.inr (Or.inr (Or.inr (Or.inr (Or.inr (Or.inr (Or.inr (Or.inr (Or.inr (Or.inl h)))))))))))
    · exact Or.inr (Or.inr (Or.inr (Or.inr (Or.inr (Or.inr (Or.inr (Or.inr (Or.inr (Or.inr (Or.inr (Or.inr h)))))))))))
