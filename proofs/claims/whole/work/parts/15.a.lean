/-! The middle: the game as numbers, to which both sides are held. First ints that are numbers. -/
theorem jLe {a b : Nat} (ha : a < 100000) (hb : b < 100000) : nI a ≤ nI b ↔ a ≤ b := nI_leI (by omega) (by omega)
theorem jLt {a b : Nat} (ha : a < 100000) (hb : b < 100000) : nI a < nI b ↔ a < b := nI_ltI (by omega) (by omega)
theorem jEq {a b : Nat} (ha : a < 100000) (hb : b < 100000) : nI a = nI b ↔ a = b := nI_eq (by omega) (by omega)
theorem jCl {a : Nat} (ha : a < 100000) : (nI a).toNatClampNeg = a := nI_clamp (by omega)
theorem jAdd (a b : Nat) : nI a + nI b = nI (a + b) := nI_add a b
theorem jMul (a b : Nat) : nI a * nI b = nI (a * b) := (Int32.ofNat_mul a b).symm
theorem jSub {a b : Nat} (h : b ≤ a) : nI a - nI b = nI (a - b) := by
  have e : nI a = nI (a - b) + nI b := by rw [jAdd, Nat.sub_add_cancel h]
  rw [e, Int32.add_sub_cancel]
theorem jNeg {a b : Nat} (h : a < b) (hb : b < 100000) : nI a - nI b < nI 0 := by
  have e : nI b = nI a + nI (b - a) := by rw [jAdd]; congr 1; omega
  have h2 : nI a - nI b = - nI (b - a) := by
    rw [e, ← Int32.sub_sub, Int32.sub_self, Int32.zero_sub]
  rw [h2, Int32.lt_iff_toInt_lt, Int32.toInt_neg, nI_toInt (by omega), nI_toInt (by omega)]
  have : Int.bmod (-((b - a : Nat) : Int)) (2 ^ 32) = -((b - a : Nat) : Int) := by
    rw [Int.bmod_eq_of_le] <;> omega
  rw [this]
  omega
theorem jM1 {a : Nat} (ha : a < 100000) : nI a = -nI 1 ↔ False := by
  refine iff_false_intro fun h => ?_
  rw [show -nI 1 = (-1 : Int32) from rfl] at h
  have := congrArg Int32.toInt h
  rw [nI_toInt (by omega)] at this
  have e : (-1 : Int32).toInt = -1 := by decide
  omega
theorem n0 : (0 : Int32) = nI 0 := rfl
theorem n1 : (1 : Int32) = nI 1 := rfl
theorem n100 : (100 : Int32) = nI 100 := rfl
theorem n200 : (200 : Int32) = nI 200 := rfl
theorem n108 : (108 : Int32) = nI 108 := rfl
theorem n98 : (98 : Int32) = nI 98 := rfl
theorem n12 : (12 : Int32) = nI 12 := rfl
theorem n6 : (6 : Int32) = nI 6 := rfl
/-- an index within its row -/
theorem jIn {k N : Nat} (h : k < N) (hN : N < 100000) : (nI k < nI 0 ∨ N ≤ (nI k).toNatClampNeg) ↔ False := by
  rw [jLt (by omega) (by omega), jCl (by omega), iff_false]; omega
def bI (p : Bool) : Int32 := if p then nI 1 else nI 0
theorem bI_0 {p : Bool} : bI p = nI 0 ↔ p = false := by cases p <;> decide
theorem bI_z (p : Bool) : bI p &&& nI 1 = bI p := by cases p <;> decide
theorem jz0 : nI 0 &&& nI 1 = nI 0 := by decide
theorem jz1 : nI 1 &&& nI 1 = nI 1 := by decide
def oI (x : Option Nat) : Int32 := match x with
  | some k => nI k
  | none => -nI 1
/-- where all is: the room, each thing's place (a room, 100, 200 + box), fuel, whether it is on -/
abbrev St : Type := Nat × (Nat → Nat) × (Nat → Nat) × (Nat → Bool)
def St.rm (s : St) : Nat := s.1
def St.pl (s : St) : Nat → Nat := s.2.1
def St.fu (s : St) : Nat → Nat := s.2.2.1
def St.on (s : St) : Nat → Bool := s.2.2.2
/-- what is told ahead of play, and the words -/
abbrev Wd : Type := (Nat → Nat) × (Nat → List Nat) × (Nat → Bool) × (Nat → Nat → Int64) × (Nat → Nat → Option Nat) × (Nat → Nat → Nat)
def Wd.W (w : Wd) : Nat := w.1 0
def Wd.R (w : Wd) : Nat := w.1 1
def Wd.T (w : Wd) : Nat := w.1 2
def Wd.Gl (w : Wd) : Nat := w.1 3
def Wd.word (w : Wd) : Nat → List Nat := w.2.1
def Wd.dark (w : Wd) : Nat → Bool := w.2.2.1
def Wd.rs (w : Wd) : Nat → Int64 := w.2.2.2.1 0
def Wd.ts (w : Wd) : Nat → Int64 := w.2.2.2.1 1
def Wd.ex (w : Wd) : Nat → Option Nat := w.2.2.2.2.1 0
def Wd.lk (w : Wd) : Nat → Option Nat := w.2.2.2.2.1 1
def Wd.noun (w : Wd) : Nat → Nat := w.2.2.2.2.2 0
def Wd.lies (w : Wd) : Nat → Nat := w.2.2.2.2.2 1
def Wd.wei (w : Wd) : Nat → Nat := w.2.2.2.2.2 2
def Wd.kind (w : Wd) : Nat → Nat := w.2.2.2.2.2 3
def Wd.fu0 (w : Wd) : Nat → Nat := w.2.2.2.2.2 4
def Wd.gth (w : Wd) : Nat → Nat := w.2.2.2.2.2 5
def Wd.grm (w : Wd) : Nat → Nat := w.2.2.2.2.2 6
/-- a set of words that are below n -/
def wset (n : Nat) (s : Int64) : Prop := s.toUInt64.toNat < 2 ^ n
def Wd.ok (w : Wd) : Prop :=
  (w.W ≤ 40 ∧ w.R ≤ 12 ∧ w.T ≤ 12 ∧ w.Gl ≤ 6) ∧
  (∀ i, i < w.W → 1 ≤ (w.word i).length ∧ (w.word i).length ≤ 8 ∧ ∀ c ∈ w.word i, 97 ≤ c ∧ c ≤ 122) ∧
  (∀ i j, i < w.W → j < w.W → w.word i = w.word j → i = j) ∧
  (∀ i, ∀ q, w.ex i = some q → i < 6 * w.R ∧ q < w.R) ∧
  (∀ i, ∀ q, w.lk i = some q → q < w.T ∧ w.ex i ≠ none) ∧
  (∀ x, x < w.T → w.noun x < w.W ∧ w.lies x < w.R ∧ 1 ≤ w.wei x ∧ w.wei x ≤ 9 ∧ (w.kind x = 112 ∨ w.kind x = 108 ∨ w.kind x = 98) ∧ w.fu0 x ≤ 99 ∧ (w.kind x ≠ 108 → w.fu0 x = 0)) ∧
  (∀ x y, x < w.T → y < w.T → w.noun x = w.noun y → x = y) ∧
  (∀ x, w.T ≤ x → w.lies x = 0 ∧ w.fu0 x = 0 ∧ w.ts x = 0) ∧
  (∀ r, w.R ≤ r → w.rs r = 0) ∧
  (∀ g, g < w.Gl → w.gth g < w.T ∧ w.grm g < w.R) ∧
  (∀ r, wset w.W (w.rs r)) ∧ ∀ x, wset w.W (w.ts x)
def St.ok (w : Wd) (s : St) : Prop :=
  s.rm < w.R ∧
  (∀ x, x < w.T → (s.pl x < w.R ∨ s.pl x = 100 ∨ (200 ≤ s.pl x ∧ s.pl x - 200 < w.T ∧ w.kind (s.pl x - 200) = 98 ∧ w.kind x ≠ 98)) ∧ (w.kind x = 98 → s.pl x < 200) ∧ s.fu x ≤ 99 ∧ (w.kind x ≠ 108 → s.fu x = 0) ∧ (s.on x = true → w.kind x = 98 ∨ (w.kind x = 108 ∧ 0 < s.fu x))) ∧
  ∀ x, w.T ≤ x → s.pl x = 0 ∧ s.fu x = 0 ∧ s.on x = false
/-- the place where a thing is, or its box -/
def sBox (s : St) (x : Nat) : Nat := if 200 ≤ s.pl x then s.pl x - 200 else x
def sHeld (s : St) (x : Nat) : Bool := s.pl x == 100 || (decide (200 ≤ s.pl x) && s.on (s.pl x - 200) && s.pl (s.pl x - 200) == 100)
def sHand (s : St) (x : Nat) : Bool := if 200 ≤ s.pl x then s.on (s.pl x - 200) && (s.pl (s.pl x - 200) == 100 || s.pl (s.pl x - 200) == s.rm) else s.pl x == 100 || s.pl x == s.rm
/-- the class's State number i -/
def RSt (σ : cS) (i : Nat) (s : St) : Prop :=
  (i < cn σ 6 ∧ cR σ 6 i 1 = some (13 + 2 * i) ∧ cR σ 6 i 2 = some (14 + 2 * i) ∧ cR σ 6 i 3 = some (1 + i)) ∧
  (14 + 2 * i < cn σ 12 ∧ 1 + i < cn σ 13 ∧ cln σ 12 (13 + 2 * i) = 12 ∧ cln σ 12 (14 + 2 * i) = 12 ∧ cln σ 13 (1 + i) = 12) ∧
  cI σ 6 i 0 = nI s.rm ∧
  ∀ x, x < 12 → cI σ 12 (13 + 2 * i) x = nI (s.pl x) ∧ cI σ 12 (14 + 2 * i) x = nI (s.fu x) ∧ cI σ 13 (1 + i) x = bI (s.on x)
/-- the reference's state that is made -/
def MSt (τ : mS) (T : Nat) (s : St) : Prop :=
  τ.1 35 = nI s.rm ∧ ∀ x, x < T → τ.2.2.1 36 x = nI (s.pl x) ∧ τ.2.2.1 38 x = nI (s.fu x) ∧ τ.2.2.1 37 x = bI (s.on x)
/-- the reference's world -/
def MWd (τ : mS) (w : Wd) : Prop :=
  (τ.1 4 = nI w.W ∧ τ.1 9 = nI w.R ∧ τ.1 16 = nI w.T ∧ τ.1 19 = nI w.Gl) ∧
  (∀ i, i < w.W → ∀ k, k < 8 → τ.2.2.1 3 (8 * i + k) = nI ((w.word i).getD k 0)) ∧
  (∀ r, r < w.R → τ.2.2.1 5 r = bI (w.dark r)) ∧
  (∀ r, r < 12 → τ.2.2.2 6 r = w.rs r ∧ τ.2.2.2 15 r = w.ts r) ∧
  (∀ i, i < 6 * w.R → τ.2.2.1 7 i = oI (w.ex i) ∧ τ.2.2.1 8 i = oI (w.lk i)) ∧
  (∀ x, x < w.T → τ.2.2.1 10 x = nI (w.noun x) ∧ τ.2.2.1 11 x = nI (w.lies x) ∧ τ.2.2.1 12 x = nI (w.wei x) ∧ τ.2.2.1 13 x = nI (w.kind x) ∧ τ.2.2.1 14 x = nI (w.fu0 x)) ∧
  ∀ g, g < w.Gl → τ.2.2.1 17 g = nI (w.gth g) ∧ τ.2.2.1 18 g = nI (w.grm g)
/-- a word's letters in one number -/
def pack (l : List Nat) : Int64 := l.foldl (fun a c => a * 32 + Int64.ofNat (c - 96)) 0
/-- the class's world -/
def CWd (σ : cS) (w : Wd) : Prop :=
  (cI σ 2 0 1 = nI w.W ∧ cI σ 2 0 6 = nI w.R ∧ cI σ 2 0 13 = nI w.T ∧ cI σ 2 0 16 = nI w.Gl) ∧
  (∀ i, i < w.W → cJ σ 15 0 i = pack (w.word i)) ∧
  (∀ r, r < w.R → cI σ 13 0 r = bI (w.dark r)) ∧
  (∀ r, r < 12 → cJ σ 15 1 r = w.rs r ∧ cJ σ 15 2 r = w.ts r) ∧
  (∀ i, i < 72 → cI σ 12 2 i = oI (w.ex i) ∧ cI σ 12 3 i = oI (w.lk i)) ∧
  (∀ x, x < w.T → cI σ 12 4 x = nI (w.noun x) ∧ cI σ 12 6 x = nI (w.wei x) ∧ cI σ 14 1 x = nI (w.kind x)) ∧
  (∀ x, x < 12 → cI σ 12 5 x = nI (w.lies x) ∧ cI σ 12 7 x = nI (w.fu0 x)) ∧
  ∀ g, g < w.Gl → cI σ 12 8 g = nI (w.gth g) ∧ cI σ 12 9 g = nI (w.grm g)
def sLight (w : Wd) (s : St) : Bool := !w.dark s.rm || (List.range' 0 w.T).any fun x => decide (w.kind x = 108) && s.on x && sHand s x
def sReach (s : St) (light : Bool) (x : Nat) : Bool := if light then sHand s x else sHeld s x
