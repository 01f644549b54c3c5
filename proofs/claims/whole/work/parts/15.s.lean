/-! Sets of words as bits: whether a word is in one, how many are. -/
theorem lg0 {x y : Int64} : lg_cmp x y = 0 ↔ x = y := by
  unfold lg_cmp
  by_cases h : x > y
  · rw [if_pos h]
    refine ⟨fun q => absurd q (by decide), fun q => ?_⟩
    subst q
    exact absurd (Int64.lt_iff_toInt_lt.mp h) (Int.lt_irrefl _)
  · rw [if_neg h]
    by_cases q : x = y
    · rw [if_pos q]; exact iff_of_true rfl q
    · rw [if_neg q]; exact iff_of_false (by decide) q
def sNat (s : Int64) : Nat := s.toUInt64.toNat
def sHas (s : Int64) (k : Nat) : Bool := (sNat s).testBit k
theorem sNat_bv (s : Int64) : sNat s = s.toBitVec.toNat := rfl
theorem sNat_lt (s : Int64) : sNat s < 2 ^ 64 := s.toBitVec.isLt
theorem sNat_inj {a b : Int64} (h : sNat a = sNat b) : a = b := Int64.toBitVec_inj.mp (BitVec.eq_of_toNat_eq h)
theorem sNat_or (a b : Int64) : sNat (a ||| b) = sNat a ||| sNat b := by
  rw [sNat_bv, Int64.toBitVec_or, BitVec.toNat_or]; rfl
theorem sNat_and (a b : Int64) : sNat (a &&& b) = sNat a &&& sNat b := by
  rw [sNat_bv, Int64.toBitVec_and, BitVec.toNat_and]; rfl
theorem sNat_add {a b : Int64} (h : sNat a + sNat b < 2 ^ 64) : sNat (a + b) = sNat a + sNat b := by
  rw [sNat_bv, Int64.toBitVec_add, BitVec.toNat_add]; exact Nat.mod_eq_of_lt h
theorem sNat_sub {a b : Int64} (h : sNat b ≤ sNat a) : sNat (a - b) = sNat a - sNat b := by
  show (a - b).toBitVec.toNat = _
  rw [Int64.toBitVec_sub]
  exact BitVec.toNat_sub_of_le h
theorem sNat_shr (a : Int64) (k : UInt64) : sNat ((a.toUInt64 >>> k).toInt64) = sNat a / 2 ^ (k.toNat % 64) := by
  show (a.toUInt64 >>> k).toNat = _
  rw [UInt64.toNat_shiftRight, Nat.shiftRight_eq_div_pow]; rfl
theorem wbit_n : ∀ k, k < 64 → sNat (wbit k) = 2 ^ k := by decide +kernel
theorem shk : ∀ k, k < 64 → (((nI k).toInt64 &&& 63).toBitVec.smod (BitVec.ofNat 64 64)).toNat = k := by decide +kernel
theorem sHas_e {s : Int64} {k : Nat} (hk : k < 64) : (lg_cmp ((s >>> ((nI k).toInt64 &&& 63)) &&& (1 : Int64)) (1 : Int64) = 0) ↔ sHas s k = true := by
  have e1 : (s >>> ((nI k).toInt64 &&& 63)).toBitVec = s.toBitVec.sshiftRight k := by
    rw [Int64.toBitVec_shiftRight]
    show s.toBitVec.sshiftRight _ = _
    congr 1
    exact shk k hk
  have e2 : sNat ((s >>> ((nI k).toInt64 &&& 63)) &&& (1 : Int64)) = sNat (s >>> ((nI k).toInt64 &&& 63)) % 2 := by
    rw [sNat_and, show sNat (1 : Int64) = 1 from rfl, Nat.and_one_is_mod]
  have e3 : sNat (s >>> ((nI k).toInt64 &&& 63)) % 2 = 1 ↔ sHas s k = true := by
    have h1 : (s.toBitVec.sshiftRight k).getLsbD 0 = s.toBitVec.getLsbD k := by
      rw [BitVec.getLsbD_sshiftRight]
      simp [hk]
    have h2 : (s.toBitVec.sshiftRight k).getLsbD 0 = decide (sNat (s >>> ((nI k).toInt64 &&& 63)) % 2 = 1) := by
      rw [sNat_bv, e1]
      exact Nat.testBit_zero _
    rw [← decide_eq_true_iff (p := sNat (s >>> ((nI k).toInt64 &&& 63)) % 2 = 1), ← h2, h1]
    rfl
  rw [lg0, ← e3]
  refine ⟨fun h => ?_, fun h => sNat_inj ?_⟩
  · rw [← e2, h]; rfl
  · rw [e2, h]; rfl
theorem sHas_or (a b : Int64) (k : Nat) : sHas (a ||| b) k = (sHas a k || sHas b k) := by
  unfold sHas; rw [sNat_or, Nat.testBit_or]
theorem sHas_wbit {j k : Nat} (hj : j < 64) : sHas (wbit j) k = decide (j = k) := by
  unfold sHas; rw [wbit_n j hj, Nat.testBit_two_pow]
theorem wset_has {n k : Nat} {s : Int64} (h : wset n s) (hk : n ≤ k) : sHas s k = false :=
  Nat.testBit_lt_two_pow (Nat.lt_of_lt_of_le h (Nat.pow_le_pow_right (by decide) hk))
theorem wset_or {n : Nat} {a b : Int64} (ha : wset n a) (hb : wset n b) : wset n (a ||| b) := by
  show sNat (a ||| b) < _
  rw [sNat_or]; exact Nat.or_lt_two_pow ha hb
theorem wset_0 (n : Nat) : wset n 0 := Nat.two_pow_pos n
theorem wset_le {n m : Nat} {s : Int64} (h : wset n s) (hm : n ≤ m) : wset m s := Nat.lt_of_lt_of_le h (Nat.pow_le_pow_right (by decide) hm)
theorem wset_bit {n k : Nat} (hk : k < n) (h : n ≤ 40) : wset n (wbit k) := by
  show sNat (wbit k) < _
  rw [wbit_n k (by omega)]; exact Nat.pow_lt_pow_right (by decide) hk
/-- how many words are in a set -/
def sBits (s : Int64) : Nat := sumR 0 40 fun k => if sHas s k then 1 else 0
theorem fm_has_s {s : Int64} {k : Nat} (hk : k < 64) : fm_has s (nI k) = some (bI (sHas s k)) := by
  unfold fm_has fm_has_15
  have h := sHas_e (s := s) hk
  cases q : sHas s k with
  | false => rw [if_neg (fun z => by rw [h.mp z] at q; cases q)]; rfl
  | true => rw [if_pos (h.mpr q)]; rfl
theorem bI_if {α : Type} (b : Bool) (x y : α) : (if bI b = 0 then x else y) = if b = true then y else x := by cases b <;> rfl
theorem bI_if0 {α : Type} (b : Bool) (x y : α) : (if bI b = nI 0 then x else y) = if b = true then y else x := by cases b <;> rfl
theorem fm_bits_l (s : Int64) : ∀ (d x a n : Nat), x + d = 40 → d < n → fm_bits_4 n s (nI a) (nI x) = some (nI (a + sumR x d fun k => if sHas s k then 1 else 0)) := by
  intro d
  induction d with
  | zero =>
    intro x a n hx hn
    obtain ⟨n, rfl⟩ : ∃ k, n = k + 1 := ⟨n - 1, by omega⟩
    obtain rfl : x = 40 := by omega
    rw [fm_bits_4]
    exact if_pos (by decide)
  | succ d ih =>
    intro x a n hx hn
    obtain ⟨n, rfl⟩ : ∃ k, n = k + 1 := ⟨n - 1, by omega⟩
    have x1 : ¬ 40 ≤ x := by omega
    rw [fm_bits_4, sumR_s, fm_has_s (by omega), Option.bind_some]
    unfold fm_bits_24
    simp (disch := omega) only [show ((40 : Int32) = nI 40) from rfl, jLe, x1, if_false, bI_if0, n1, n0, jAdd]
    rw [ih (x + 1) (a + 0) n (by omega) (by omega), ih (x + 1) (a + 1) n (by omega) (by omega)]
    cases sHas s x <;> simp [Nat.add_assoc]
theorem fm_bits_s (s : Int64) : fm_bits s = some (nI (sBits s)) := by
  have h := fm_bits_l s 40 0 0 3000 (by omega) (by omega)
  rw [Nat.zero_add] at h
  exact h
theorem fc_includes_s {σ : cS} {s : Int64} {k : Nat} (hk : k < 40) : fc_X11_includes σ s (nI k) = some (bI (sHas s k), σ) := by
  have h := sHas_e (s := s) (k := k) (by omega)
  have x1 : ¬ 40 ≤ k := by omega
  have h' : (lg_cmp ((s >>> ((nI k).toInt64 &&& 63)) &&& (1 : Int64)) (1 : Int64) = nI 0) = (sHas s k = true) := propext h
  unfold fc_X11_includes fc_X11_includes_24 fc_X11_includes_25
  simp (disch := omega) only [show ((40 : Int32) = nI 40) from rfl, n0, jLt, jLe, x1, Nat.not_lt_zero, if_false, h']
  cases sHas s k <;> rfl
theorem fc_includes_n {σ : cS} {s : Int64} : fc_X11_includes σ s (-nI 1) = some (bI false, σ) := rfl
