/-! Hints owned, and their prices: both sides. -/
/-- whether a hint is owned where play is, by some of the sales -/
def sOwn (t : Tr) (p : Sp) (x d h : Nat) : Bool := (List.range' x d).any fun s => decide (p.sh s = h) && (sOnP t (p.sn s) t.now || sOnP t t.now (p.sn s))
theorem sOwn_s (t : Tr) (p : Sp) (x d h : Nat) : sOwn t p x (d + 1) h = ((decide (p.sh x = h) && (sOnP t (p.sn x) t.now || sOnP t t.now (p.sn x))) || sOwn t p (x + 1) d h) := by
  unfold sOwn
  rw [List.range'_succ, List.any_cons]
section J20
variable {g : Gm} {σ σ1 : cS} {τ τ1 : mS} {w : Wd} {t : Tr} {p : Sp}
theorem fm_owned_l (ht : Tr.ok w t) (hT : MTr τ w t) (h0 : 0 < t.N) (hp : Sp.ok w t p) (hM : MSp τ p) {h : Nat} (hh : h < 1000) : ∀ (d x : Nat) (a : Bool) (f : Nat), x + d = p.S → d < f → fm_isOwnedNow_4 f τ (nI h) (bI a) (nI x) = some (bI (a || sOwn t p x d h), τ) := by
  have hS : p.S ≤ 80 := Nat.le_trans hp.1.2 ht.1.1
  have h80 := ht.1.1
  have hn := ht.1.2.1 h0
  intro d
  induction d with
  | zero =>
    intro x a f hx hf
    obtain ⟨f, rfl⟩ : ∃ m, f = m + 1 := ⟨f - 1, by omega⟩
    rw [show fm_isOwnedNow_4 (f + 1) τ (nI h) (bI a) (nI x) = if (τ.1 49) ≤ nI x then (if bI a &&& 1 = bI a then some (bI a, τ) else none) else _ from rfl]
    rw [hM.1.2.2, if_pos (show nI p.S ≤ nI x by rw [jLe (by omega) (by omega)]; omega), if_pos (show bI a &&& 1 = bI a from bI_z a)]
    show _ = some (bI (a || false), τ)
    rw [Bool.or_false]
  | succ d ih =>
    intro x a f hx hf
    obtain ⟨f, rfl⟩ : ∃ m, f = m + 1 := ⟨f - 1, by omega⟩
    obtain ⟨y1, y2, y3⟩ := hM.2.2.2 x (by omega)
    obtain ⟨z1, z2, z3⟩ := hp.2.2.2.1 x (by omega)
    have hH := hp.1.1
    have e66 : ∀ b, b = a → fm_isOwnedNow_66 (fm_isOwnedNow_4 f) τ (nI h) (nI x) (bI a) = some (bI (b || (false || sOwn t p (x + 1) d h)), τ) := fun b hb => by
      unfold fm_isOwnedNow_66 fm_isOwnedNow_67
      rw [show (0 : Int32) = bI false from rfl, bI_or, show nI x + 1 = nI (x + 1) from jAdd x 1, ih (x + 1) _ f (by omega) (by omega), hb, Bool.or_assoc]
    have e62 : fm_isOwnedNow_62 (fm_isOwnedNow_4 f) τ (nI h) (nI x) (bI a) = some (bI (a || (true || sOwn t p (x + 1) d h)), τ) := by
      unfold fm_isOwnedNow_62 fm_isOwnedNow_67
      rw [show (1 : Int32) = bI true from rfl, bI_or, show nI x + bI true = nI (x + 1) from jAdd x 1, ih (x + 1) _ f (by omega) (by omega), Bool.or_assoc]
    rw [show fm_isOwnedNow_4 (f + 1) τ (nI h) (bI a) (nI x) = if (τ.1 49) ≤ nI x then _ else if nI x < 0 ∨ 80 ≤ (nI x).toNatClampNeg then none else if (τ.2.2.1 47 (nI x).toNatClampNeg) < 0 ∨ 80 ≤ (τ.2.2.1 47 (nI x).toNatClampNeg).toNatClampNeg then none else if (τ.2.2.1 32 (τ.2.2.1 47 (nI x).toNatClampNeg).toNatClampNeg) = nI h then (if nI x < 0 ∨ 80 ≤ (nI x).toNatClampNeg then none else (fm_isOnPath τ (τ.2.2.1 47 (nI x).toNatClampNeg) (τ.1 34)).bind fun r_1 => if r_1.1 = 0 then (if nI x < 0 ∨ 80 ≤ (nI x).toNatClampNeg then none else (fm_isOnPath r_1.2 (r_1.2.1 34) (r_1.2.2.2.1 47 (nI x).toNatClampNeg)).bind fun r_2 => if r_2.1 = 0 then fm_isOwnedNow_66 (fm_isOwnedNow_4 f) r_2.2 (nI h) (nI x) (bI a) else fm_isOwnedNow_62 (fm_isOwnedNow_4 f) r_2.2 (nI h) (nI x) (bI a)) else fm_isOwnedNow_62 (fm_isOwnedNow_4 f) r_1.2 (nI h) (nI x) (bI a)) else fm_isOwnedNow_66 (fm_isOwnedNow_4 f) τ (nI h) (nI x) (bI a) from rfl]
    have i1 : ¬ (nI x < 0 ∨ 80 ≤ (nI x).toNatClampNeg) := fun z => (jIn (show x < 80 by omega) (by omega)).mp z
    rw [hM.1.2.2, if_neg (show ¬ nI p.S ≤ nI x by rw [jLe (by omega) (by omega)]; omega), if_neg i1, jCl (show x < 100000 by omega), y1, if_neg (iN0 (show p.sn x < 80 by omega) (by omega)), jCl (by omega), y3, sOwn_s]
    by_cases q : p.sh x = h
    · rw [if_pos (show nI (p.sh x) = nI h by rw [q]), if_neg (iN1 (show x < 80 by omega) (by omega)), hT.1.2.1, fm_isOnPath_s ht hT z3 hn, Option.bind_some, decide_eq_true q, bI_if]
      by_cases q1 : sOnP t (p.sn x) t.now = true
      · rw [if_pos q1, q1]
        exact e62
      · rw [if_neg q1, Bool.eq_false_iff.mpr q1, if_neg (iN1 (show x < 80 by omega) (by omega))]
        show (fm_isOnPath τ (τ.1 34) (τ.2.2.1 47 x)).bind _ = _
        rw [hT.1.2.1, y1, fm_isOnPath_s ht hT hn z3, Option.bind_some, bI_if]
        by_cases q2 : sOnP t t.now (p.sn x) = true
        · rw [if_pos q2, q2]
          exact e62
        · rw [if_neg q2, Bool.eq_false_iff.mpr q2]
          exact e66 a rfl
    · rw [if_neg (show ¬ nI (p.sh x) = nI h from fun z => q ((jEq (by omega) (by omega)).mp z)), decide_eq_false q]
      exact e66 a rfl
theorem fc_owned_l (ht : Tr.ok w t) (hT : CTr σ t) (h0 : 0 < t.N) (hp : Sp.ok w t p) (hC : CSp σ p) {h : Nat} (hh : h < 1000) : ∀ (d x : Nat) (f : Nat), x + d = p.S → d < f → fc_X5_isOwnedAt_2 f σ (nI h) (some t.now) (nI x) = some (bI (sOwn t p x d h), σ) := by
  have hS : p.S ≤ 80 := Nat.le_trans hp.1.2 ht.1.1
  have hL := hC.1.2.2.2.1
  have hn := ht.1.2.1 h0
  intro d
  induction d with
  | zero =>
    intro x f hx hf
    obtain ⟨f, rfl⟩ : ∃ m, f = m + 1 := ⟨f - 1, by omega⟩
    rw [show fc_X5_isOwnedAt_2 (f + 1) σ (nI h) (some t.now) (nI x) = (fc_Jx4a65c_size_8abf5 σ (some 1)).bind fun r_1 => if r_1.1 ≤ nI x then (if (0 : Int32) &&& 1 = (0 : Int32) then some ((0 : Int32), r_1.2) else none) else _ from rfl]
    rw [hL.size, Option.bind_some]
    refine (if_pos (show nI p.S ≤ nI x by rw [jLe (by omega) (by omega)]; omega)).trans ?_
    exact if_pos (show (0 : Int32) &&& 1 = 0 by decide)
  | succ d ih =>
    intro x f hx hf
    obtain ⟨f, rfl⟩ : ∃ m, f = m + 1 := ⟨f - 1, by omega⟩
    obtain ⟨y1, y2, y3⟩ := hC.2.2.2 x (by omega)
    obtain ⟨z1, z2, z3⟩ := hp.2.2.2.1 x (by omega)
    have hH := hp.1.1
    have h9 : x < cn σ 9 := by rw [hC.1.2.2.2.2]; omega
    have e49 : fc_X5_isOwnedAt_49 (fc_X5_isOwnedAt_2 f) σ (nI h) (some t.now) (nI x) = some (bI (sOwn t p (x + 1) d h), σ) := by
      unfold fc_X5_isOwnedAt_49
      rw [n1, jAdd]
      exact ih (x + 1) f (by omega) (by omega)
    rw [show fc_X5_isOwnedAt_2 (f + 1) σ (nI h) (some t.now) (nI x) = (fc_Jx4a65c_size_8abf5 σ (some 1)).bind fun r_1 => if r_1.1 ≤ nI x then _ else (fc_Jx4a65c_get_915e3 r_1.2 (some 1) (nI x) 9).bind fun r_2 => if ¬ (lvq r_2.2 9 r_2.1 = true) then none else (dr r_2.2 9 r_2.1).bind fun i_3 => if (cI r_2.2 9 i_3 0) = nI h then ((fc_X11_areOnOnePath r_2.2 (cR r_2.2 9 i_3 1) (some t.now)).bind fun r_4 => if r_4.1 = 0 then fc_X5_isOwnedAt_49 (fc_X5_isOwnedAt_2 f) r_4.2 (nI h) (some t.now) (nI x) else (if (1 : Int32) &&& 1 = (1 : Int32) then some ((1 : Int32), r_4.2) else none)) else fc_X5_isOwnedAt_49 (fc_X5_isOwnedAt_2 f) r_2.2 (nI h) (some t.now) (nI x) from rfl]
    rw [hL.size, Option.bind_some]
    refine (if_neg (show ¬ nI p.S ≤ nI x by rw [jLe (by omega) (by omega)]; omega)).trans ?_
    show (fc_Jx4a65c_get_915e3 σ (some 1) (nI x) 9).bind _ = _
    rw [hL.get (by omega) (by omega), Option.bind_some]
    refine (if_neg (fun z => (lvq_mk h9).mp z)).trans ?_
    rw [dr_mk h9, Option.bind_some]
    show (if cI σ 9 x 0 = nI h then ((fc_X11_areOnOnePath σ (cR σ 9 x 1) (some t.now)).bind fun r_4 => if r_4.1 = 0 then fc_X5_isOwnedAt_49 (fc_X5_isOwnedAt_2 f) r_4.2 (nI h) (some t.now) (nI x) else (if (1 : Int32) &&& 1 = (1 : Int32) then some ((1 : Int32), r_4.2) else none)) else fc_X5_isOwnedAt_49 (fc_X5_isOwnedAt_2 f) σ (nI h) (some t.now) (nI x)) = _
    rw [y1, y2, sOwn_s]
    by_cases q : p.sh x = h
    · rw [if_pos (show nI (p.sh x) = nI h by rw [q]), fc_areOnOnePath_s ht hT z3 hn, Option.bind_some, decide_eq_true q, bI_if]
      by_cases q1 : (sOnP t (p.sn x) t.now || sOnP t t.now (p.sn x)) = true
      · rw [if_pos q1, q1, if_pos (show (1 : Int32) &&& 1 = 1 by decide)]
        rfl
      · rw [if_neg q1, Bool.eq_false_iff.mpr q1]
        exact e49
    · rw [if_neg (show ¬ nI (p.sh x) = nI h from fun z => q ((jEq (by omega) (by omega)).mp z)), decide_eq_false q]
      exact e49
/-- a hint's price where play is -/
def sPrice (t : Tr) (p : Sp) (h : Nat) : Int32 := FP.f2i (FP.fmul (FP.i2f (p.ba h * nI (sBits (p.te h &&& (sKn t t.now ^^^ (-1 : Int64)))))) (FP.fsub FP.fconst2 (FP.fdiv (FP.i2f (nI (sShow t (p.te h)))) (FP.i2f (nI t.N)))))
theorem wset_and {n : Nat} {a : Int64} (b : Int64) (h : wset n a) : wset n (a &&& b) := by
  show sNat (a &&& b) < 2 ^ n
  rw [sNat_and]
  exact Nat.lt_of_le_of_lt Nat.and_le_left h
theorem fm_price_l (ht : Tr.ok w t) (hT : MTr τ w t) (h0 : 0 < t.N) (hp : Sp.ok w t p) (hM : MSp τ p) {h : Nat} (hh : h < p.H) (u : Nat) : ∀ (d x a f : Nat), x + d = t.N → d < f → fm_priceNow_28 f τ (nI h) (nI u) (nI a) (nI x) = some (FP.f2i (FP.fmul (FP.i2f (p.ba h * nI u)) (FP.fsub FP.fconst2 (FP.fdiv (FP.i2f (nI (a + sCnt (showP t (p.te h)) x d))) (FP.i2f (nI t.N))))), τ) := by
  have hH := hp.1.1
  have h80 := ht.1.1
  have i1 : ¬ (nI h < 0 ∨ 12 ≤ (nI h).toNatClampNeg) := fun z => (jIn (show h < 12 by omega) (by omega)).mp z
  have nz : (nI t.N).toInt ≠ 0 := by rw [nI_toInt (by omega)]; omega
  intro d
  induction d with
  | zero =>
    intro x a f hx hf
    obtain ⟨f, rfl⟩ : ∃ m, f = m + 1 := ⟨f - 1, by omega⟩
    rw [show fm_priceNow_28 (f + 1) τ (nI h) (nI u) (nI a) (nI x) = if (τ.1 33) ≤ nI x then (if ¬ ((FP.fdiv (FP.i2f (nI a)) (FP.i2f (τ.1 33))) &&& 0x7fffffff ≤ 0x7f800000) then none else if nI h < 0 ∨ 12 ≤ (nI h).toNatClampNeg then none else if ¬ ((FP.fsub FP.fconst2 (FP.fdiv (FP.i2f (nI a)) (FP.i2f (τ.1 33)))) &&& 0x7fffffff ≤ 0x7f800000) then none else if ¬ ((FP.fmul (FP.i2f ((τ.2.2.1 43 (nI h).toNatClampNeg) * nI u)) (FP.fsub FP.fconst2 (FP.fdiv (FP.i2f (nI a)) (FP.i2f (τ.1 33))))) &&& 0x7fffffff ≤ 0x7f800000) then none else some ((FP.f2i (FP.fmul (FP.i2f ((τ.2.2.1 43 (nI h).toNatClampNeg) * nI u)) (FP.fsub FP.fconst2 (FP.fdiv (FP.i2f (nI a)) (FP.i2f (τ.1 33)))))), τ)) else _ from rfl]
    rw [hT.1.1, if_pos (show nI t.N ≤ nI x by rw [jLe (by omega) (by omega)]; omega), if_neg (fun z => z (num32 (Nat.lt_of_lt_of_le (share_mag (nI a) nz) (by decide)))), if_neg i1, if_neg (fun z => z (num32 (Nat.lt_of_lt_of_le (less_mag (nI a) nz) (by decide)))), jCl (by omega), if_neg (fun z => z (num32 (Nat.lt_of_lt_of_le (mul_mag _ (nI a) nz) (by decide)))), hM.2.1 h hh]
    rfl
  | succ d ih =>
    intro x a f hx hf
    obtain ⟨f, rfl⟩ : ∃ m, f = m + 1 := ⟨f - 1, by omega⟩
    obtain ⟨-, y2, -⟩ := hT.2 x (by omega)
    rw [show fm_priceNow_28 (f + 1) τ (nI h) (nI u) (nI a) (nI x) = if (τ.1 33) ≤ nI x then _ else if nI x < 0 ∨ 80 ≤ (nI x).toNatClampNeg then none else if nI h < 0 ∨ 12 ≤ (nI h).toNatClampNeg then none else if (lg_cmp ((τ.2.2.2 30 (nI x).toNatClampNeg) &&& (τ.2.2.2 44 (nI h).toNatClampNeg)) (0 : Int64)) = 0 then fm_priceNow_62 (fm_priceNow_28 f) τ (nI h) (nI u) (nI x) (0 : Int32) (nI a) else fm_priceNow_62 (fm_priceNow_28 f) τ (nI h) (nI u) (nI x) (1 : Int32) (nI a) from rfl]
    rw [hT.1.1, if_neg (show ¬ nI t.N ≤ nI x by rw [jLe (by omega) (by omega)]; omega), if_neg (iN0 (show x < 80 by omega) (by omega)), if_neg i1, jCl (by omega), jCl (by omega), y2, hM.2.2.1 h (by omega), sCnt_s]
    unfold fm_priceNow_62
    rw [show nI x + 1 = nI (x + 1) from jAdd x 1]
    by_cases q : t.sh x &&& p.te h = 0
    · rw [if_pos (lg0.mpr q), show nI a + 0 = nI (a + 0) from jAdd a 0, ih (x + 1) _ f (by omega) (by omega), if_neg (show ¬ showP t (p.te h) x = true from fun z => (of_decide_eq_true z) q)]
      congr 9
      omega
    · rw [if_neg (fun z => q (lg0.mp z)), show nI a + 1 = nI (a + 1) from jAdd a 1, ih (x + 1) _ f (by omega) (by omega), if_pos (show showP t (p.te h) x = true from decide_eq_true q), Nat.add_assoc]
theorem fm_price_s (ht : Tr.ok w t) (hT : MTr τ w t) (h0 : 0 < t.N) (hp : Sp.ok w t p) (hM : MSp τ p) {h : Nat} (hh : h < p.H) : fm_priceNow τ (nI h) = some (sPrice t p h, τ) := by
  have hH := hp.1.1
  have h80 := ht.1.1
  have hn := ht.1.2.1 h0
  have i1 : ¬ (nI h < 0 ∨ 12 ≤ (nI h).toNatClampNeg) := fun z => (jIn (show h < 12 by omega) (by omega)).mp z
  unfold fm_priceNow
  rw [if_neg i1, hT.1.2.1, fm_knownAt_s ht hT hn, Option.bind_some, jCl (by omega), hM.2.2.1 h (by omega), fm_bits_s, Option.bind_some]
  show fm_priceNow_28 3000 τ (nI h) (nI _) (nI 0) (nI 0) = _
  rw [fm_price_l ht hT h0 hp hM hh _ t.N 0 0 3000 (by omega) (by omega), Nat.zero_add]
  rfl
theorem fc_price_s (ht : Tr.ok w t) (hT : CTr σ t) (h0 : 0 < t.N) (hp : Sp.ok w t p) (hC : CSp σ p) (hw : Wd.ok w) {h : Nat} (hh : h < p.H) : fc_X5_priceAt σ (nI h) (some t.now) = some (sPrice t p h, σ) := by
  have hH := hp.1.1
  have h80 := ht.1.1
  have hn := ht.1.2.1 h0
  have i1 : ¬ (nI h < 0 ∨ 12 ≤ (nI h).toNatClampNeg) := fun z => (jIn (show h < 12 by omega) (by omega)).mp z
  have nz : (nI t.N).toInt ≠ 0 := by rw [nI_toInt (by omega)]; omega
  have hset : wset 40 (p.te h &&& (sKn t t.now ^^^ (-1 : Int64))) := wset_and _ (wset_le (hp.2.1 h).1 hw.1.1)
  unfold fc_X5_priceAt fc_X5_priceAt_43
  rw [if_neg i1, hT.dn hn, Option.bind_some, fc_wordsOfPath_s ht hT hn, Option.bind_some, jCl (by omega), hC.2.2.1 h (by omega), fc_bitCount_s hset, Option.bind_some]
  show ((fc_Jx4a65c_size_8abf5 σ (some 0)).bind _) = _
  rw [hT.1.2.1.size, Option.bind_some]
  have hb : sBits (p.te h &&& (sKn t t.now ^^^ (-1 : Int64))) < 100000 := by
    have : sBits (p.te h &&& (sKn t t.now ^^^ (-1 : Int64))) ≤ 40 * 1 := sumR_le 40 0 (fun y _ _ => by split <;> omega)
    omega
  show (if nI (sBits (p.te h &&& (sKn t t.now ^^^ (-1 : Int64)))) = 0 then some ((0 : Int32), σ) else if nI t.N = 0 then some ((0 : Int32), σ) else (fc_X8_nodesShowing σ (p.te h)).bind _) = _
  by_cases q : sBits (p.te h &&& (sKn t t.now ^^^ (-1 : Int64))) = 0
  · rw [if_pos (by rw [q]; rfl)]
    unfold sPrice
    rw [q, show p.ba h * nI 0 = 0 from Int32.mul_zero, f2i_zero]
    exact FP.Core.fin_of_lt32 (less_mag _ nz) (by omega)
  · rw [if_neg (show ¬ nI (sBits (p.te h &&& (sKn t t.now ^^^ (-1 : Int64)))) = 0 from fun z => q ((jEq (b := 0) hb (by omega)).mp z)), if_neg (show ¬ nI t.N = 0 from fun z => by have := (jEq (a := t.N) (b := 0) (by omega) (by omega)).mp z; omega), fc_nodesShowing_s ht hT, Option.bind_some]
    refine (if_neg (fun z => z (num32 (Nat.lt_of_lt_of_le (share_mag _ nz) (by decide))))).trans ?_
    refine (if_neg (iN1 (show h < 12 by omega) (by omega))).trans ?_
    refine (if_neg (fun z => z (num32 (Nat.lt_of_lt_of_le (less_mag _ nz) (by decide))))).trans ?_
    refine (if_neg (fun z => z (num32 (Nat.lt_of_lt_of_le (mul_mag _ _ nz) (by decide))))).trans ?_
    show some (FP.f2i (FP.fmul (FP.i2f ((cI σ 12 12 h) * _)) _), σ) = _
    rw [hC.2.1 h hh]
    rfl
end J20
