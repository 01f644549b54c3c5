/-! How many bits: the library's count. -/
def mskB (m : Nat) : Nat → Nat
  | 0 => 0
  | n + 1 => m + 256 * mskB m n
theorem and256 {a m h g : Nat} (ha : a < 256) (hm : m < 256) : ((a + 256 * h) &&& (m + 256 * g)) = (a &&& m) + 256 * (h &&& g) := by
  have e1 : ((a + 256 * h) &&& (m + 256 * g)) % 2 ^ 8 = (a &&& m) := by
    rw [Nat.and_mod_two_pow, show (a + 256 * h) % 2 ^ 8 = a by omega, show (m + 256 * g) % 2 ^ 8 = m by omega]
  have e2 : ((a + 256 * h) &&& (m + 256 * g)) / 2 ^ 8 = (h &&& g) := by
    rw [Nat.and_div_two_pow, show (a + 256 * h) / 2 ^ 8 = h by omega, show (m + 256 * g) / 2 ^ 8 = g by omega]
  have := Nat.div_add_mod ((a + 256 * h) &&& (m + 256 * g)) (2 ^ 8)
  omega
def yB (n x : Nat) : Nat := x - (x / 2 &&& mskB 85 n)
def zB (n y : Nat) : Nat := (y &&& mskB 51 n) + (y / 4 &&& mskB 51 n)
def uB (n z : Nat) : Nat := (z + z / 16) &&& mskB 15 n
def s1B (a : Nat) : Nat := a - (a / 2 &&& 85)
def s2B (y : Nat) : Nat := (y &&& 51) + (y / 4 &&& 51)
def s3B (z : Nat) : Nat := (z + z / 16) &&& 15
def pcB (a : Nat) : Nat := sumR 0 8 fun k => if a.testBit k then 1 else 0
theorem f1B : ∀ a, a < 256 → ∀ b, b < 2 → ((a / 2 + 128 * b) &&& 85) = (a / 2 &&& 85) ∧ s1B a < 256 := by decide +kernel
theorem f2B : ∀ y, y < 256 → ∀ b, b < 4 → ((y / 4 + 64 * b) &&& 51) = (y / 4 &&& 51) := by decide +kernel
theorem f3B : ∀ z, z < 256 → z / 16 ≤ 4 → z % 16 ≤ 4 → ∀ b, b ≤ 4 → ((z + z / 16 + 16 * b) &&& 15) = s3B z ∧ z + z / 16 + 16 * b < 256 := by decide +kernel
theorem f4B : ∀ a, a < 256 → s2B (s1B a) / 16 ≤ 4 ∧ s2B (s1B a) % 16 ≤ 4 ∧ s2B (s1B a) < 256 ∧ s3B (s2B (s1B a)) = pcB a ∧ pcB a ≤ 8 := by decide +kernel
theorem yB_s {n a h : Nat} (ha : a < 256) : yB (n + 1) (a + 256 * h) = s1B a + 256 * yB n h := by
  obtain ⟨e, -⟩ := f1B a ha (h % 2) (by omega)
  have h1 : (a / 2 &&& 85) ≤ a / 2 := Nat.and_le_left
  have h2 : (h / 2 &&& mskB 85 n) ≤ h / 2 := Nat.and_le_left
  unfold yB s1B
  rw [show (a + 256 * h) / 2 = (a / 2 + 128 * (h % 2)) + 256 * (h / 2) by omega, show mskB 85 (n + 1) = 85 + 256 * mskB 85 n from rfl, and256 (by omega) (by omega), e]
  omega
theorem zB_s {n a h : Nat} (ha : a < 256) : zB (n + 1) (a + 256 * h) = s2B a + 256 * zB n h := by
  have e := f2B a ha (h % 4) (by omega)
  unfold zB s2B
  rw [show (a + 256 * h) / 4 = (a / 4 + 64 * (h % 4)) + 256 * (h / 4) by omega, show mskB 51 (n + 1) = 51 + 256 * mskB 51 n from rfl, and256 (by omega) (by omega), and256 (by omega) (by omega), e]
  omega
theorem uB_s {n a h : Nat} (ha : a < 256) (h1 : a / 16 ≤ 4) (h2 : a % 16 ≤ 4) (h3 : h % 16 ≤ 4) : uB (n + 1) (a + 256 * h) = s3B a + 256 * uB n h := by
  obtain ⟨e, e2⟩ := f3B a ha h1 h2 (h % 16) h3
  unfold uB
  rw [show (a + 256 * h) + (a + 256 * h) / 16 = (a + a / 16 + 16 * (h % 16)) + 256 * (h + h / 16) by omega, show mskB 15 (n + 1) = 15 + 256 * mskB 15 n from rfl, and256 e2 (by omega), e]
theorem nib (n h : Nat) : zB n (yB n h) % 16 ≤ 4 := by
  cases n with
  | zero =>
    show ((_ &&& 0) + (_ &&& 0)) % 16 ≤ 4
    rw [Nat.and_zero, Nat.and_zero]
    decide
  | succ n =>
    have ha : h % 256 < 256 := by omega
    have e : h = h % 256 + 256 * (h / 256) := by omega
    rw [e, yB_s ha, zB_s (f1B _ ha 0 (by omega)).2]
    have := (f4B _ ha).2.1
    omega
def pB (n x : Nat) : Nat := uB n (zB n (yB n x))
theorem pB_s (n x : Nat) : pB (n + 1) x = pcB (x % 256) + 256 * pB n (x / 256) := by
  have ha : x % 256 < 256 := by omega
  obtain ⟨g1, g2, g3, g4, -⟩ := f4B _ ha
  have e : x = x % 256 + 256 * (x / 256) := by omega
  unfold pB
  rw [show yB (n + 1) x = yB (n + 1) (x % 256 + 256 * (x / 256)) from congrArg _ e, yB_s ha, zB_s (f1B _ ha 0 (by omega)).2, uB_s g3 g1 g2 (nib _ _), g4]
theorem pB_0 (x : Nat) : pB 0 x = 0 := Nat.and_zero _
def cB : Nat → Nat → Nat
  | 0, _ => 0
  | n + 1, x => pcB (x % 256) + cB n (x / 256)
theorem sumR_sh (f : Nat → Nat) (j : Nat) : ∀ (d x : Nat), sumR (x + j) d f = sumR x d fun k => f (k + j) := by
  intro d
  induction d with
  | zero => intro x; rfl
  | succ d ih =>
    intro x
    rw [sumR_s, sumR_s, ← ih (x + 1), show x + j + 1 = x + 1 + j by omega]
theorem sumR_add (f : Nat → Nat) (e : Nat) : ∀ (d x : Nat), sumR x (d + e) f = sumR x d f + sumR (x + d) e f := by
  intro d
  induction d with
  | zero => intro x; rw [Nat.zero_add, sumR_0, Nat.zero_add]; rfl
  | succ d ih =>
    intro x
    rw [show d + 1 + e = (d + e) + 1 by omega, sumR_s, sumR_s, ih, show x + 1 + d = x + (d + 1) by omega, Nat.add_assoc]
theorem cB_sum : ∀ (n x : Nat), sumR 0 (8 * n) (fun k => if x.testBit k then 1 else 0) = cB n x := by
  intro n
  induction n with
  | zero => intro x; rfl
  | succ n ih =>
    intro x
    rw [show 8 * (n + 1) = 8 + 8 * n by omega, sumR_add, sumR_sh _ 8 _ 0, cB, ← ih]
    congr 1
    · unfold pcB
      refine sumR_congr 8 0 fun y _ hy => ?_
      rw [show x % 256 = x % 2 ^ 8 from rfl, Nat.testBit_mod_two_pow, decide_eq_true (by omega), Bool.true_and]
    · refine sumR_congr _ _ fun y _ _ => ?_
      rw [show x / 256 = x / 2 ^ 8 from rfl, Nat.testBit_div_two_pow, Nat.add_comm]
theorem cB_z : ∀ n, cB n 0 = 0 := by
  intro n
  induction n with
  | zero => rfl
  | succ n ih => show pcB 0 + cB n 0 = 0; rw [ih]; rfl
def bcS (k : Int32) (v : Int64) : Int64 := (v.toUInt64 >>> (k.toInt64.toUInt64 &&& Int64.toUInt64 63)).toInt64
def bcY (x : Int64) : Int64 := x - (bcS 1 x &&& 6148914691236517205)
def bcZ (x : Int64) : Int64 := (bcY x &&& 3689348814741910323) + (bcS 2 (bcY x) &&& 3689348814741910323)
def bcU (x : Int64) : Int64 := (bcZ x + bcS 4 (bcZ x)) &&& 1085102592571150095
def bcV (x : Int64) : Int64 := bcU x + bcS 8 (bcU x)
def bcW (x : Int64) : Int64 := bcV x + bcS 16 (bcV x)
def bcR (x : Int64) : Int64 := bcW x + bcS 32 (bcW x)
theorem bc_eq (σ : cS) (x : Int64) : fc_J13_bitCount_95d88 σ x = some ((bcR x).toInt32 &&& 127, σ) := rfl
theorem bcS_n (v : Int64) : sNat (bcS 1 v) = sNat v / 2 ∧ sNat (bcS 2 v) = sNat v / 4 ∧ sNat (bcS 4 v) = sNat v / 16 ∧ sNat (bcS 8 v) = sNat v / 256 ∧ sNat (bcS 16 v) = sNat v / 65536 ∧ sNat (bcS 32 v) = sNat v / 4294967296 :=
  ⟨sNat_shr v _, sNat_shr v _, sNat_shr v _, sNat_shr v _, sNat_shr v _, sNat_shr v _⟩
theorem mskB8 : sNat 6148914691236517205 = mskB 85 8 ∧ sNat 3689348814741910323 = mskB 51 8 ∧ sNat 1085102592571150095 = mskB 15 8 := by decide +kernel
theorem mskB_lt : mskB 51 8 < 2 ^ 62 ∧ mskB 15 8 < 2 ^ 60 := by decide +kernel
theorem low127 (r : Int64) (h : sNat r % 128 < 100) : (r.toInt32 &&& 127) = nI (sNat r % 128) := by
  refine Int32.toBitVec_inj.mp (BitVec.eq_of_toNat_eq ?_)
  rw [Int32.toBitVec_and, BitVec.toNat_and]
  have e1 : r.toInt32.toBitVec.toNat = sNat r % 2 ^ 32 := by
    show (r.toBitVec.signExtend 32).toNat = _
    rw [BitVec.signExtend_eq_setWidth_of_le _ (by decide), BitVec.toNat_setWidth]
    rfl
  rw [e1, show ((127 : Int32).toBitVec.toNat) = 2 ^ 7 - 1 from rfl, Nat.and_two_pow_sub_one_eq_mod]
  show _ = (sNat r % 128) % 2 ^ 32
  omega
theorem dv256 {a y : Nat} (h : a < 256) : (a + 256 * y) / 256 = y := by omega
theorem md128 {a b y z : Nat} (h : a + b < 128) : ((a + 256 * y) + (b + 256 * z)) % 128 = a + b := by omega
theorem fold8 {d0 d1 d2 d3 d4 d5 d6 d7 u v w r : Nat} (b0 : d0 ≤ 8) (b1 : d1 ≤ 8) (b2 : d2 ≤ 8) (b3 : d3 ≤ 8) (b4 : d4 ≤ 8) (b5 : d5 ≤ 8) (b6 : d6 ≤ 8) (b7 : d7 ≤ 8)
    (hu : u = d0 + 256 * (d1 + 256 * (d2 + 256 * (d3 + 256 * (d4 + 256 * (d5 + 256 * (d6 + 256 * (d7 + 256 * 0)))))))) (hv : v = u + u / 256) (hw : w = v + v / 65536) (hr : r = w + w / 4294967296) :
    r % 128 = d0 + (d1 + (d2 + (d3 + (d4 + (d5 + (d6 + (d7 + 0))))))) := by
  have q1 : u / 256 = d1 + 256 * (d2 + 256 * (d3 + 256 * (d4 + 256 * (d5 + 256 * (d6 + 256 * d7))))) := by
    rw [hu]; exact dv256 (Nat.lt_of_le_of_lt b0 (by decide))
  have q2 : v = (d0 + d1) + 256 * ((d1 + d2) + 256 * ((d2 + d3) + 256 * ((d3 + d4) + 256 * ((d4 + d5) + 256 * ((d5 + d6) + 256 * ((d6 + d7) + 256 * d7)))))) := by
    rw [hv, q1, hu]
    clear hv hw hr hu q1
    omega
  clear q1 hv hu
  have q3 : v / 65536 = (d2 + d3) + 256 * ((d3 + d4) + 256 * ((d4 + d5) + 256 * ((d5 + d6) + 256 * ((d6 + d7) + 256 * d7)))) := by
    rw [show (65536 : Nat) = 256 * 256 from rfl, ← Nat.div_div_eq_div_mul, q2]
    clear hw hr q2
    rw [dv256 (by omega), dv256 (by omega)]
  have q4 : w = (d0 + d1 + (d2 + d3)) + 256 * ((d1 + d2 + (d3 + d4)) + 256 * ((d2 + d3 + (d4 + d5)) + 256 * ((d3 + d4 + (d5 + d6)) + 256 * ((d4 + d5 + (d6 + d7)) + 256 * ((d5 + d6 + d7) + 256 * ((d6 + d7) + 256 * d7)))))) := by
    rw [hw, q3, q2]
    clear hw hr q2 q3
    omega
  clear q3 q2 hw
  have q5 : w / 4294967296 = (d4 + d5 + (d6 + d7)) + 256 * ((d5 + d6 + d7) + 256 * ((d6 + d7) + 256 * d7)) := by
    rw [show (4294967296 : Nat) = 256 * 256 * 256 * 256 from rfl, ← Nat.div_div_eq_div_mul, ← Nat.div_div_eq_div_mul, ← Nat.div_div_eq_div_mul, q4]
    clear hr q4
    rw [dv256 (by omega), dv256 (by omega), dv256 (by omega), dv256 (by omega)]
  rw [hr, q5, q4]
  clear hr q4 q5
  rw [md128 (by omega)]
  omega
theorem bc_n (x : Int64) : (bcR x).toInt32 &&& 127 = nI (cB 8 (sNat x)) := by
  obtain ⟨m1, m2, m3⟩ := mskB8
  obtain ⟨l2, l3⟩ := mskB_lt
  have eY : sNat (bcY x) = yB 8 (sNat x) := by
    unfold bcY yB
    have h : sNat (bcS 1 x &&& 6148914691236517205) = (sNat x / 2 &&& mskB 85 8) := by rw [sNat_and, (bcS_n x).1, m1]
    have h2 : (sNat x / 2 &&& mskB 85 8) ≤ sNat x / 2 := Nat.and_le_left
    rw [sNat_sub (by rw [h]; omega), h]
  have eZ : sNat (bcZ x) = zB 8 (sNat (bcY x)) := by
    unfold bcZ zB
    have h : sNat (bcS 2 (bcY x) &&& 3689348814741910323) = (sNat (bcY x) / 4 &&& mskB 51 8) := by rw [sNat_and, (bcS_n _).2.1, m2]
    have h1 : sNat (bcY x &&& 3689348814741910323) = (sNat (bcY x) &&& mskB 51 8) := by rw [sNat_and, m2]
    have h2 : (sNat (bcY x) / 4 &&& mskB 51 8) ≤ mskB 51 8 := Nat.and_le_right
    have h3 : (sNat (bcY x) &&& mskB 51 8) ≤ mskB 51 8 := Nat.and_le_right
    rw [sNat_add (by rw [h, h1]; omega), h, h1]
  have eZl : sNat (bcZ x) < 2 ^ 63 := by
    rw [eZ]
    unfold zB
    have h2 : (sNat (bcY x) / 4 &&& mskB 51 8) ≤ mskB 51 8 := Nat.and_le_right
    have h3 : (sNat (bcY x) &&& mskB 51 8) ≤ mskB 51 8 := Nat.and_le_right
    omega
  have eU : sNat (bcU x) = pB 8 (sNat x) := by
    unfold bcU pB uB
    rw [sNat_and, sNat_add (by rw [(bcS_n _).2.2.1]; omega), (bcS_n _).2.2.1, m3, eZ, eY]
  have g : ∀ y, pcB (y % 256) ≤ 8 := fun y => (f4B _ (by omega)).2.2.2.2
  have k := sNat x
  simp only [pB_s, pB_0] at eU
  simp only [cB]
  have b0 := g (sNat x)
  have b1 := g (sNat x / 256)
  have b2 := g (sNat x / 256 / 256)
  have b3 := g (sNat x / 256 / 256 / 256)
  have b4 := g (sNat x / 256 / 256 / 256 / 256)
  have b5 := g (sNat x / 256 / 256 / 256 / 256 / 256)
  have b6 := g (sNat x / 256 / 256 / 256 / 256 / 256 / 256)
  have b7 := g (sNat x / 256 / 256 / 256 / 256 / 256 / 256 / 256)
  generalize pcB (sNat x % 256) = d0 at *
  generalize pcB (sNat x / 256 % 256) = d1 at *
  generalize pcB (sNat x / 256 / 256 % 256) = d2 at *
  generalize pcB (sNat x / 256 / 256 / 256 % 256) = d3 at *
  generalize pcB (sNat x / 256 / 256 / 256 / 256 % 256) = d4 at *
  generalize pcB (sNat x / 256 / 256 / 256 / 256 / 256 % 256) = d5 at *
  generalize pcB (sNat x / 256 / 256 / 256 / 256 / 256 / 256 % 256) = d6 at *
  generalize pcB (sNat x / 256 / 256 / 256 / 256 / 256 / 256 / 256 % 256) = d7 at *
  clear eZ eY eZl g m1 m2 m3 l2 l3
  have eV : sNat (bcV x) = sNat (bcU x) + sNat (bcU x) / 256 := by
    unfold bcV
    rw [sNat_add (by rw [(bcS_n _).2.2.2.1]; omega), (bcS_n _).2.2.2.1]
  have eW : sNat (bcW x) = sNat (bcV x) + sNat (bcV x) / 65536 := by
    unfold bcW
    rw [sNat_add (by rw [(bcS_n _).2.2.2.2.1]; omega), (bcS_n _).2.2.2.2.1]
  have eR : sNat (bcR x) = sNat (bcW x) + sNat (bcW x) / 4294967296 := by
    unfold bcR
    rw [sNat_add (by rw [(bcS_n _).2.2.2.2.2]; omega), (bcS_n _).2.2.2.2.2]
  have e : sNat (bcR x) % 128 = d0 + (d1 + (d2 + (d3 + (d4 + (d5 + (d6 + (d7 + 0))))))) := fold8 b0 b1 b2 b3 b4 b5 b6 b7 eU eV eW eR
  rw [low127 _ (by omega), e]
theorem fc_bitCount_s {σ : cS} {s : Int64} (h : wset 40 s) : fc_J13_bitCount_95d88 σ s = some (nI (sBits s), σ) := by
  rw [bc_eq, bc_n]
  have e : cB 8 (sNat s) = sBits s := by
    unfold sBits sHas
    rw [show (40 : Nat) = 8 * 5 from rfl, cB_sum]
    have h0 : sNat s / 256 / 256 / 256 / 256 / 256 = 0 := by
      have : sNat s < 2 ^ 40 := h
      omega
    simp only [cB, h0, show pcB (0 % 256) = 0 from rfl, show (0 : Nat) / 256 = 0 from rfl]
  rw [e]
