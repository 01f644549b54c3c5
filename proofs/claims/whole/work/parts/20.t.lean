/-! Answers that are no ints: checksum, knownShare, meanPrice. -/
/-- as Alk, of an answer of another kind -/
def AlkT {β : Type} (ex : List Nat) (P : β → Prop) (f : Option ((Nat ⊕ β) × cS)) (m : Option (β × mS)) : Prop := ∃ g' r σ' v τ', f = some (r, σ') ∧ m = some (v, τ') ∧ (match r with | .inr x => τ'.1 0 = nI 0 ∧ x = v ∧ P x | .inl c => ∃ j, ex[j]? = some c ∧ τ'.1 0 = nI (j + 1)) ∧ Rel g' σ' τ'
def ckF (s : St) : Nat → Nat → Int64 → Int64
  | 0, _, a => a
  | d + 1, x, a => ckF s d (x + 1) (a * 31 + (nI (s.pl x)).toInt64 + (if s.on x = true then 1000 else 0) + 10000 * (nI (s.fu x)).toInt64)
section T20
variable {g : Gm} {σ σ1 : cS} {τ τ1 : mS} {w : Wd}
theorem AlkT.x {β : Type} {ex : List Nat} {P : β → Prop} {c j : Nat} {v : β} {f : Option ((Nat ⊕ β) × cS)} {m : Option (β × mS)} (hR : Rel g σ τ) (hf : f = some (.inl c, σ)) (hm : m = some (v, mI τ 0 (nI (j + 1)))) (h : ex[j]? = some c) : AlkT ex P f m :=
  ⟨g, .inl c, σ, v, _, hf, hm, ⟨j, h, mI_at _ _ _⟩, hR.1, hR.2.1, hR.2.2.th _⟩
theorem AlkT.v {β : Type} {ex : List Nat} {P : β → Prop} {v : β} {f : Option ((Nat ⊕ β) × cS)} {m : Option (β × mS)} (hR : Rel g σ τ) (hf : f = some (.inr v, σ)) (hm : m = some (v, mI τ 0 (nI 0))) (h : P v) : AlkT ex P f m :=
  ⟨g, .inr v, σ, v, _, hf, hm, ⟨mI_at _ _ _, rfl, h⟩, hR.1, hR.2.1, hR.2.2.th _⟩
theorem fm_check_l {s : St} {k : Nat} (hw : Wd.ok w) (hW : MWd τ w) (hs : St.ok w s) (hk : k < 80) (h34 : τ.1 34 = nI k) (hN : MNd τ w.T k s) : ∀ (d x n : Nat) (a : Int64), x + d = w.T → d < n → fm_checksum_26 n τ a (nI x) = some (ckF s d x a, τ) := by
  have hT : w.T ≤ 12 := hw.1.2.2.1
  intro d
  induction d with
  | zero =>
    intro x n a hx hn
    obtain ⟨n, rfl⟩ : ∃ m, n = m + 1 := ⟨n - 1, by omega⟩
    rw [show fm_checksum_26 (n + 1) τ a (nI x) = if (τ.1 16) ≤ nI x then some (a, τ) else _ from rfl]
    rw [hW.1.2.2.1]
    exact if_pos (show nI w.T ≤ nI x by rw [jLe (by omega) (by omega)]; omega)
  | succ d ih =>
    intro x n a hx hn
    obtain ⟨n, rfl⟩ : ∃ m, n = m + 1 := ⟨n - 1, by omega⟩
    obtain ⟨y1, y2, y3⟩ := hN.2 x (by omega)
    have i960 : ¬ (nI (12 * k + x) < 0 ∨ 960 ≤ (nI (12 * k + x)).toNatClampNeg) := iN0 (show 12 * k + x < 960 by omega) (by omega)
    have hkd : w.kind x < 1000 := by have := (hw.2.2.2.2.2.1 x (by omega)).2.2.2.2.1; omega
    have tail : ∀ (b : Bool) (v : Int32), v.toInt64 = (if b = true then 1000 else 0) → s.on x = b → fm_checksum_76 (fm_checksum_26 n) τ (nI x) (nI (12 * k + x)) v (31 * a + (nI (s.pl x)).toInt64) = some (ckF s (d + 1) x a, τ) := by
      intro b v hv hb
      unfold fm_checksum_76 fm_checksum_105
      rw [if_neg (iN0 (show x < 12 by omega) (by omega)), jCl (show x < 100000 by omega), (hW.2.2.2.2.2.1 x (by omega)).2.2.2.1, n108, show nI x + 1 = nI (x + 1) from jAdd x 1, if_neg i960, jCl (show 12 * k + x < 100000 by omega), y2, hv]
      show _ = some (ckF s d (x + 1) (a * 31 + (nI (s.pl x)).toInt64 + (if s.on x = true then 1000 else 0) + 10000 * (nI (s.fu x)).toInt64), τ)
      rw [hb, Int64.mul_comm 31 a]
      by_cases q : w.kind x = 108
      · rw [if_pos (show nI (w.kind x) = nI 108 by rw [q]), ih (x + 1) n _ (by omega) (by omega)]
      · rw [if_neg (show ¬ nI (w.kind x) = nI 108 from fun z => q ((jEq (by omega) (by omega)).mp z)), ih (x + 1) n _ (by omega) (by omega), (hs.2.1 x (by omega)).2.2.2.1 q, show (10000 : Int64) * (nI 0).toInt64 = 0 by decide]
    rw [show fm_checksum_26 (n + 1) τ a (nI x) = if (τ.1 16) ≤ nI x then _ else if (((12 : Int32) * (τ.1 34)) + nI x) < 0 ∨ 960 ≤ (((12 : Int32) * (τ.1 34)) + nI x).toNatClampNeg then none else if (((12 : Int32) * (τ.1 34)) + nI x) < 0 ∨ 960 ≤ (((12 : Int32) * (τ.1 34)) + nI x).toNatClampNeg then none else if (τ.2.2.1 23 (((12 : Int32) * (τ.1 34)) + nI x).toNatClampNeg) = 0 then fm_checksum_76 (fm_checksum_26 n) τ (nI x) (((12 : Int32) * (τ.1 34)) + nI x) (0 : Int32) (((31 : Int64) * a) + ((τ.2.2.1 22 (((12 : Int32) * (τ.1 34)) + nI x).toNatClampNeg).toInt64)) else fm_checksum_76 (fm_checksum_26 n) τ (nI x) (((12 : Int32) * (τ.1 34)) + nI x) (1000 : Int32) (((31 : Int64) * a) + ((τ.2.2.1 22 (((12 : Int32) * (τ.1 34)) + nI x).toNatClampNeg).toInt64)) from rfl]
    rw [hW.1.2.2.1, if_neg (show ¬ nI w.T ≤ nI x by rw [jLe (by omega) (by omega)]; omega), h34, n12, jMul, jAdd, if_neg i960, if_neg i960, jCl (show 12 * k + x < 100000 by omega), y3, y1, bI_if]
    by_cases q : s.on x = true
    · rw [if_pos q]
      exact tail true 1000 (by decide) q
    · rw [if_neg q]
      exact tail false 0 (by decide) (Bool.eq_false_iff.mpr q)
theorem fc_check_l {s : St} {i : Nat} (hw : Wd.ok w) (hW : CWd σ w) (hs : St.ok w s) (hm : RSt σ i s) : ∀ (d x n : Nat) (a : Int64), x + d = w.T → d < n → fc_X11_checksum_18 n σ (some i) a (nI x) = some (.inr (ckF s d x a), σ) := by
  have hT : w.T ≤ 12 := hw.1.2.2.1
  obtain ⟨c1, c2, c3, c4⟩ := hm.cons
  intro d
  induction d with
  | zero =>
    intro x n a hx hn
    obtain ⟨n, rfl⟩ : ∃ m, n = m + 1 := ⟨n - 1, by omega⟩
    rw [show fc_X11_checksum_18 (n + 1) σ (some i) a (nI x) = if (cI σ 2 0 13) ≤ nI x then some (.inr a, σ) else _ from rfl]
    rw [hW.1.2.2.1]
    exact if_pos (show nI w.T ≤ nI x by rw [jLe (by omega) (by omega)]; omega)
  | succ d ih =>
    intro x n a hx hn
    obtain ⟨n, rfl⟩ : ∃ m, n = m + 1 := ⟨n - 1, by omega⟩
    obtain ⟨y1, y2, y3⟩ := hm.2.2.2 x (by omega)
    obtain ⟨-, ⟨-, -, l1, l2, l3⟩, -⟩ := id hm
    have i12 : ¬ (nI x < 0 ∨ 12 ≤ (nI x).toNatClampNeg) := iN0 (show x < 12 by omega) (by omega)
    have tail : ∀ (v : Int64), v = (if s.on x = true then 1000 else 0) → fc_X11_checksum_61 (fc_X11_checksum_18 n) σ (some i) (nI x) v (a * 31 + (nI (s.pl x)).toInt64) = some (.inr (ckF s (d + 1) x a), σ) := by
      intro v hv
      unfold fc_X11_checksum_61
      rw [c1, Option.bind_some, c3, Option.bind_some, l2, if_neg i12, jCl (show x < 100000 by omega), y2, show nI x + 1 = nI (x + 1) from jAdd x 1, ih (x + 1) n _ (by omega) (by omega), hv]
      rfl
    rw [show fc_X11_checksum_18 (n + 1) σ (some i) a (nI x) = if (cI σ 2 0 13) ≤ nI x then _ else (dr σ 6 (some i)).bind fun i_1 => (dr σ 12 (cR σ 6 i_1 1)).bind fun i_2 => if nI x < 0 ∨ cln σ 12 i_2 ≤ (nI x).toNatClampNeg then none else (dr σ 13 (cR σ 6 i_1 3)).bind fun i_3 => if nI x < 0 ∨ cln σ 13 i_3 ≤ (nI x).toNatClampNeg then none else if (cI σ 13 i_3 (nI x).toNatClampNeg) = 0 then fc_X11_checksum_61 (fc_X11_checksum_18 n) σ (some i) (nI x) (0 : Int64) ((a * (31 : Int64)) + ((cI σ 12 i_2 (nI x).toNatClampNeg).toInt64)) else fc_X11_checksum_61 (fc_X11_checksum_18 n) σ (some i) (nI x) (1000 : Int64) ((a * (31 : Int64)) + ((cI σ 12 i_2 (nI x).toNatClampNeg).toInt64)) from rfl]
    rw [hW.1.2.2.1, if_neg (show ¬ nI w.T ≤ nI x by rw [jLe (by omega) (by omega)]; omega), c1, Option.bind_some, c2, Option.bind_some, l1, if_neg i12, c4, Option.bind_some, l3, if_neg i12, jCl (show x < 100000 by omega), y3, y1, bI_if]
    by_cases q : s.on x = true
    · rw [if_pos q]
      exact tail 1000 (by rw [if_pos q])
    · rw [if_neg q]
      exact tail 0 (by rw [if_neg q])
theorem meth_checksum (hR : Rel g σ τ) : AlkT [2] (fun _ => True) (fc_X11_checksum σ) (fm_checksum τ) := by
  obtain ⟨hok, hCR, hMR⟩ := id hR
  obtain ⟨k1, k2, k3, hp, k5, k6⟩ := id hok
  obtain ⟨r1, r2, r3, hC, r5, r6, r7, s0, r8⟩ := id hCR
  obtain ⟨n1', n2, n3, n4, n5, n6'⟩ := mr0 hMR
  have h80 := k3.1.1
  have hT12 := k1.1.2.2.1
  unfold fc_X11_checksum fm_checksum
  rw [fc_stateHere_s k3 r3, xb_xb, fc_needPlay_s r3 h80, xb_ifN, fm_isNotBegun_s hMR.2.2.1, Option.bind_some]
  by_cases z : g.t.N = 0
  · rw [if_pos z, if_pos z, decide_eq_true z]
    refine AlkT.x (c := 2) (j := 0) (v := 0) hR rfl ?_ rfl
    exact if_neg nz1
  · have hn := k3.1.2.1 (by omega)
    have hst := (k3.2.2.1 _ hn).1
    obtain ⟨-, -, -, -, -, x5, -⟩ := r3.2.1 _ hn
    rw [if_neg z, if_neg z, decide_eq_false z]
    refine AlkT.v (v := ckF (g.t.st g.t.now) g.w.T 0 ((217 : Int64) + (nI (g.t.st g.t.now).rm).toInt64)) hR ?_ ?_ trivial
    · show (dr σ 6 (some (g.t.now + 1))).bind _ = _
      rw [dr_mk x5.1.1, Option.bind_some, x5.2.2.1]
      show fc_X11_checksum_18 3000 σ (some (g.t.now + 1)) _ (nI 0) = _
      rw [fc_check_l k1 r1 hst x5 g.w.T 0 3000 _ (by omega) (by omega)]
    · have e34 : (mI τ 0 (nI 0)).1 34 = nI g.t.now := n3.1.2.1
      show (if nI 0 = 0 then (if (mI τ 0 (nI 0)).1 34 < 0 ∨ 80 ≤ ((mI τ 0 (nI 0)).1 34).toNatClampNeg then none else fm_checksum_26 3000 (mI τ 0 (nI 0)) ((217 : Int64) + ((mI τ 0 (nI 0)).2.2.1 21 ((mI τ 0 (nI 0)).1 34).toNatClampNeg).toInt64) (nI 0)) else _) = _
      rw [if_pos (show nI 0 = 0 from rfl), e34, if_neg (iN0 (show g.t.now < 80 by omega) (by omega)), jCl (by omega), (n3.2 _ hn).2.2.1, fm_check_l k1 n1' hst (by omega) e34 (n3.2 _ hn).2.2 g.w.T 0 3000 _ (by omega) (by omega)]
theorem meth_knownShare (hR : Rel g σ τ) : AlkT [2, 6] (fun x : UInt32 => x.toNat % 2 ^ 31 < 161 * 2 ^ 23) (fc_X11_knownShare σ) (fm_knownShare τ) := by
  obtain ⟨hok, hCR, hMR⟩ := id hR
  obtain ⟨k1, k2, k3, hp, k5, k6⟩ := id hok
  obtain ⟨r1, r2, r3, hC, r5, r6, r7, s0, r8⟩ := id hCR
  obtain ⟨m1, m2, m3, m4, m5, hM⟩ := id hMR
  obtain ⟨n1', n2, n3, n4, n5, n6'⟩ := mr0 hMR
  have h80 := k3.1.1
  have h40 := k1.1.1
  have bad : ∀ k, 0 < k → k < 1000 → fm_knownShare_24 τ (nI k) = some (FP.fconst0, mI τ 0 (nI k)) := fun k h1 h2 => by
    unfold fm_knownShare_24 fm_knownShare_45
    rw [wrong_s τ (by omega) h1]
    exact if_neg nz1
  unfold fc_X11_knownShare fm_knownShare
  rw [fc_needPlay_s r3 h80, xb_ifN, begun_if m3]
  by_cases z : g.t.N = 0
  · rw [if_pos z, if_pos z]
    exact AlkT.x (c := 2) (j := 0) hR rfl (bad 1 (by omega) (by omega)) rfl
  · rw [if_neg z, if_neg z, r1.1.1, m1.1.1]
    by_cases zw : g.w.W = 0
    · rw [if_pos (show nI g.w.W = 0 by rw [zw]; rfl), if_pos (show nI g.w.W = 0 by rw [zw]; rfl)]
      exact AlkT.x (c := 6) (j := 1) hR rfl (bad 2 (by omega) (by omega)) rfl
    · have nz : ¬ nI g.w.W = 0 := fun h => zw ((jEq (b := 0) (by omega) (by omega)).mp h)
      have nzi : (nI g.w.W).toInt ≠ 0 := by rw [nI_toInt (by omega)]; omega
      rw [if_neg nz, if_neg nz, fc_wordsKnown_s k1 k3 r3 (by omega), Option.bind_some]
      refine AlkT.v (v := FP.fdiv (FP.i2f (nI (sBits (sKn g.t g.t.now)))) (FP.i2f (nI g.w.W))) hR ?_ ?_ (share_mag _ nzi)
      · show (if ¬ ((FP.fdiv (FP.i2f (nI (sBits (sKn g.t g.t.now)))) (FP.i2f (cI σ 2 0 1))) &&& 0x7fffffff ≤ 0x7f800000) then none else some (Sum.inr (FP.fdiv (FP.i2f (nI (sBits (sKn g.t g.t.now)))) (FP.i2f (cI σ 2 0 1))), σ)) = _
        rw [r1.1.1, if_neg (fun h => h (num32 (Nat.lt_of_lt_of_le (share_mag _ nzi) (by decide))))]
      · unfold fm_knownShare_24 fm_knownShare_45
        rw [show fm_isWrong τ 0 = fm_isWrong τ (nI 0) from rfl, right_s]
        show (if nI 0 = 0 then (fm_knownMany (mI τ 0 (nI 0))).bind _ else _) = _
        rw [if_pos (show nI 0 = 0 from rfl), fm_known_many k3 n3 (by omega), Option.bind_some]
        show (if ¬ ((FP.fdiv (FP.i2f (nI (sBits (sKn g.t g.t.now)))) (FP.i2f ((mI τ 0 (nI 0)).1 4))) &&& 0x7fffffff ≤ 0x7f800000) then none else some (FP.fdiv (FP.i2f (nI (sBits (sKn g.t g.t.now)))) (FP.i2f ((mI τ 0 (nI 0)).1 4)), mI τ 0 (nI 0))) = _
        rw [n1'.1.1, if_neg (fun h => h (num32 (Nat.lt_of_lt_of_le (share_mag _ nzi) (by decide))))]
theorem fm_mean_l {t : Tr} {p : Sp} (hS80 : p.S ≤ 80) (hp : MSp τ p) : ∀ (d x n : Nat), x + d = p.S → d < n → fm_meanPrice_4 n τ (p.paid x) (nI x) = if p.S = 0 then fm_meanPrice_40 τ (p.paid p.S) 1 else fm_meanPrice_40 τ (p.paid p.S) 0 := by
  intro d
  induction d with
  | zero =>
    intro x n hx hn
    obtain ⟨n, rfl⟩ : ∃ m, n = m + 1 := ⟨n - 1, by omega⟩
    rw [show fm_meanPrice_4 (n + 1) τ (p.paid x) (nI x) = if (τ.1 49) ≤ nI x then (if (τ.1 49) = 0 then fm_meanPrice_40 τ (p.paid x) 1 else fm_meanPrice_40 τ (p.paid x) 0) else _ from rfl]
    rw [hp.1.2.2, if_pos (show nI p.S ≤ nI x by rw [jLe (by omega) (by omega)]; omega), show x = p.S by omega]
    by_cases z : p.S = 0
    · rw [if_pos z, if_pos (show nI p.S = 0 by rw [z]; rfl)]
    · rw [if_neg z, if_neg (show ¬ nI p.S = 0 from fun h => z ((jEq (b := 0) (by omega) (by omega)).mp h))]
  | succ d ih =>
    intro x n hx hn
    obtain ⟨n, rfl⟩ : ∃ m, n = m + 1 := ⟨n - 1, by omega⟩
    obtain ⟨y1, y2, y3⟩ := hp.2.2.2 x (by omega)
    rw [show fm_meanPrice_4 (n + 1) τ (p.paid x) (nI x) = if (τ.1 49) ≤ nI x then _ else if nI x < 0 ∨ 80 ≤ (nI x).toNatClampNeg then none else (fm_meanPrice_4 n) τ (p.paid x + (τ.2.2.1 48 (nI x).toNatClampNeg)) (nI x + (1 : Int32)) from rfl]
    rw [hp.1.2.2, if_neg (show ¬ nI p.S ≤ nI x by rw [jLe (by omega) (by omega)]; omega), if_neg (iN0 (show x < 80 by omega) (by omega)), jCl (by omega), y2, n1, jAdd]
    exact ih (x + 1) n (by omega) (by omega)
theorem fc_paid_l {p : Sp} (hS80 : p.S ≤ 80) (hp : CSp σ p) : ∀ (d x n : Nat), x + d = p.S → d < n → fc_X5_paid_4 n σ (p.paid x) (nI x) = some (p.paid p.S, σ) := by
  have hL := hp.1.2.2.2.1
  intro d
  induction d with
  | zero =>
    intro x n hx hn
    obtain ⟨n, rfl⟩ : ∃ m, n = m + 1 := ⟨n - 1, by omega⟩
    rw [show fc_X5_paid_4 (n + 1) σ (p.paid x) (nI x) = (fc_Jx4a65c_size_8abf5 σ (some 1)).bind fun r_1 => if r_1.1 ≤ nI x then some (p.paid x, r_1.2) else _ from rfl]
    rw [hL.size, Option.bind_some]
    refine (if_pos (show nI p.S ≤ nI x by rw [jLe (by omega) (by omega)]; omega)).trans ?_
    rw [show x = p.S by omega]
  | succ d ih =>
    intro x n hx hn
    obtain ⟨n, rfl⟩ : ∃ m, n = m + 1 := ⟨n - 1, by omega⟩
    obtain ⟨y1, y2, y3⟩ := hp.2.2.2 x (by omega)
    have h9 : x < cn σ 9 := by rw [hp.1.2.2.2.2]; omega
    rw [show fc_X5_paid_4 (n + 1) σ (p.paid x) (nI x) = (fc_Jx4a65c_size_8abf5 σ (some 1)).bind fun r_1 => if r_1.1 ≤ nI x then _ else (fc_Jx4a65c_get_915e3 r_1.2 (some 1) (nI x) 9).bind fun r_2 => if ¬ (lvq r_2.2 9 r_2.1 = true) then none else (dr r_2.2 9 r_2.1).bind fun i_3 => (fc_X5_paid_4 n) r_2.2 (p.paid x + (cI r_2.2 9 i_3 2)) (nI x + (1 : Int32)) from rfl]
    rw [hL.size, Option.bind_some]
    refine (if_neg (show ¬ nI p.S ≤ nI x by rw [jLe (by omega) (by omega)]; omega)).trans ?_
    show (fc_Jx4a65c_get_915e3 σ (some 1) (nI x) 9).bind _ = _
    rw [hL.get (by omega) (by omega), Option.bind_some]
    refine (if_neg (fun z => (lvq_mk h9).mp z)).trans ?_
    rw [dr_mk h9, Option.bind_some]
    show fc_X5_paid_4 n σ (p.paid x + cI σ 9 x 2) (nI x + nI 1) = _
    rw [y3, jAdd]
    exact ih (x + 1) n (by omega) (by omega)
theorem fc_paid_s {p : Sp} (hS80 : p.S ≤ 80) (hp : CSp σ p) : fc_X5_paid σ = some (p.paid p.S, σ) := by
  show fc_X5_paid_4 3000 σ (p.paid 0) (nI 0) = _
  rw [fc_paid_l hS80 hp p.S 0 3000 (by omega) (by omega)]
theorem meth_meanPrice (hR : Rel g σ τ) : AlkT [5] (fun x : UInt64 => x.toNat % 2 ^ 63 < 1057 * 2 ^ 52) (fc_X11_meanPrice σ) (fm_meanPrice τ) := by
  obtain ⟨hok, hCR, hMR⟩ := id hR
  obtain ⟨k1, k2, k3, hp, k5, k6⟩ := id hok
  obtain ⟨r1, r2, r3, hC, r5, r6, r7, s0, r8⟩ := id hCR
  obtain ⟨m1, m2, m3, m4, m5, hM⟩ := id hMR
  have h80 := k3.1.1
  have hS80 : g.p.S ≤ 80 := Nat.le_trans hp.1.2 k3.1.1
  have em : fm_meanPrice τ = if g.p.S = 0 then fm_meanPrice_40 τ (g.p.paid g.p.S) 1 else fm_meanPrice_40 τ (g.p.paid g.p.S) 0 := by
    show fm_meanPrice_4 3000 τ (g.p.paid 0) (nI 0) = _
    rw [fm_mean_l (t := g.t) hS80 hM g.p.S 0 3000 (by omega) (by omega)]
  rw [em]
  unfold fc_X11_meanPrice
  rw [hC.1.2.2.2.1.size, Option.bind_some]
  by_cases z : g.p.S = 0
  · rw [if_pos z]
    refine AlkT.x (c := 5) (j := 0) (v := FP.dconst0) hR ?_ ?_ rfl
    · exact if_pos (show nI g.p.S = 0 by rw [z]; rfl)
    · unfold fm_meanPrice_40 fm_meanPrice_58
      rw [show fm_isWrong τ 1 = fm_isWrong τ (nI 1) from rfl, wrong_s τ (by omega) (by omega)]
      exact if_neg nz1
  · have nz : ¬ nI g.p.S = 0 := fun h => z ((jEq (b := 0) (by omega) (by omega)).mp h)
    have nzi : (nI g.p.S).toInt ≠ 0 := by rw [nI_toInt (by omega)]; omega
    rw [if_neg z]
    refine AlkT.v (v := FP.ddiv (FP.i2d (g.p.paid g.p.S)) (FP.i2d (nI g.p.S))) hR ?_ ?_ (mean_mag _ nzi)
    · refine (if_neg nz).trans ?_
      show (fc_X5_paid σ).bind _ = _
      rw [fc_paid_s hS80 hC, Option.bind_some]
      exact if_neg (fun h => h (num64 (Nat.lt_of_lt_of_le (mean_mag _ nzi) (by decide))))
    · unfold fm_meanPrice_40 fm_meanPrice_58
      rw [show fm_isWrong τ 0 = fm_isWrong τ (nI 0) from rfl, right_s]
      show (if nI 0 = 0 then (if ¬ ((FP.ddiv (FP.i2d (g.p.paid g.p.S)) (FP.i2d ((mI τ 0 (nI 0)).1 49))) &&& 0x7fffffffffffffff ≤ 0x7ff0000000000000) then none else some (FP.ddiv (FP.i2d (g.p.paid g.p.S)) (FP.i2d ((mI τ 0 (nI 0)).1 49)), mI τ 0 (nI 0))) else _) = _
      rw [if_pos (show nI 0 = 0 from rfl), show (mI τ 0 (nI 0)).1 49 = nI g.p.S from hM.1.2.2, if_neg (fun h => h (num64 (Nat.lt_of_lt_of_le (mean_mag _ nzi) (by decide))))]
end T20
