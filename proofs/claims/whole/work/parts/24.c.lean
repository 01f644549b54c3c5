/-! The start: the empty game. -/
def w0 : Wd := (fun _ => 0, fun _ => [], fun _ => false, fun _ _ => 0, fun _ _ => none, fun _ _ => 0)
def s0' : St := (0, fun _ => 0, fun _ => 0, fun _ => false)
def t0 : Tr := ((0, 0), fun _ => 0, fun _ => s0', fun _ => 0, fun _ => (0, none, none), fun _ => [])
def p0 : Sp := ((0, 0), (100, 0), fun _ => 0, fun _ => 0, fun _ => 0, fun _ => 0, fun _ => 0)
def g0 : Gm := (w0, [], t0, p0)
theorem g0_wd : Wd.ok w0 := by
  refine ⟨⟨Nat.zero_le _, Nat.zero_le _, Nat.zero_le _, Nat.zero_le _⟩, fun i h => absurd h (Nat.not_lt_zero i), fun i j h => absurd h (Nat.not_lt_zero i), fun i q h => (by cases h), fun i q h => (by cases h), fun x h => absurd h (Nat.not_lt_zero x), fun x y h => absurd h (Nat.not_lt_zero x), fun x _ => ⟨rfl, rfl, rfl⟩, fun r _ => rfl, fun g h => absurd h (Nat.not_lt_zero g), fun r => wset_0 _, fun x => wset_0 _⟩
theorem sBits_0 : sBits 0 = 0 := by decide +kernel
theorem g0_ok : Gm.ok g0 := by
  refine ⟨g0_wd, ⟨Nat.zero_le _, fun c h => by cases h⟩, ⟨⟨Nat.zero_le _, fun h => absurd h (Nat.lt_irrefl 0), fun _ => rfl⟩, fun n _ h => absurd h (Nat.not_lt_zero n), fun n h => absurd h (Nat.not_lt_zero n), fun n m h => absurd h (Nat.not_lt_zero n)⟩, ?_, fun n _ h => absurd h (Nat.not_lt_zero n), fun h => absurd h (Nat.lt_irrefl 0)⟩
  refine ⟨⟨Nat.zero_le _, Nat.le_refl _⟩, fun h => ⟨wset_0 _, ?_⟩, fun h _ => rfl, fun s h => absurd h (Nat.not_lt_zero s), fun i j _ h => absurd h (Nat.not_lt_zero j), fun n _ h => absurd h (Nat.not_lt_zero n), by decide⟩
  show sBits 0 ≤ 6
  rw [sBits_0]
  decide
theorem g0_m : MR (mI mZ 46 100) g0 := by
  refine ⟨⟨⟨rfl, rfl, rfl, rfl⟩, fun i h => absurd h (Nat.not_lt_zero i), fun i h => absurd h (Nat.not_lt_zero i), fun r _ => ⟨rfl, rfl⟩, fun i h => absurd h (Nat.not_lt_zero i), fun i h => absurd h (Nat.not_lt_zero i), fun i h => absurd h (Nat.not_lt_zero i)⟩, ⟨rfl, fun k h => absurd h (Nat.not_lt_zero k)⟩, ⟨⟨rfl, rfl, rfl⟩, fun n h => absurd h (Nat.not_lt_zero n)⟩, fun n _ h => absurd h (Nat.not_lt_zero n), fun n h => absurd h (Nat.not_lt_zero n), ⟨⟨rfl, rfl, rfl⟩, fun h z => absurd z (Nat.not_lt_zero h), fun h _ => rfl, fun s z => absurd z (Nat.not_lt_zero s)⟩⟩
set_option maxRecDepth 100000 in
theorem cZ_a : (cI cZ 2 0 1 = nI 0 ∧ cI cZ 2 0 6 = nI 0 ∧ cI cZ 2 0 13 = nI 0 ∧ cI cZ 2 0 16 = nI 0) ∧ (∀ r, r < 12 → cJ cZ 15 1 r = 0 ∧ cJ cZ 15 2 r = 0) ∧ (∀ i, i < 72 → cI cZ 12 2 i = -nI 1 ∧ cI cZ 12 3 i = -nI 1) ∧ (∀ x, x < 12 → cI cZ 12 5 x = nI 0 ∧ cI cZ 12 7 x = nI 0) ∧ cI cZ 1 0 3 = nI 0 := by decide +kernel
set_option maxRecDepth 100000 in
theorem cZ_b : (cI cZ 4 0 2 = nI 0 ∧ cn cZ 7 = 0 ∧ cn cZ 6 = 1 ∧ cn cZ 12 = 15 ∧ cn cZ 13 = 2) ∧ (∀ k, k < 40 → cI cZ 12 11 k = nI 0) ∧ (cI cZ 5 0 2 = nI 0 ∧ cI cZ 5 0 4 = 100 ∧ cI cZ 5 0 5 = 0 ∧ cn cZ 9 = 0) ∧ (∀ h, h < 12 → cJ cZ 15 3 h = 0) ∧ (2 ≤ cn cZ 10 ∧ cI cZ 10 0 2 = nI 0 ∧ cI cZ 10 1 2 = nI 0 ∧ cR cZ 10 0 1 = some 0 ∧ cR cZ 10 1 1 = some 0 ∧ 0 < cn cZ 17 ∧ cln cZ 17 0 = 0) := by decide +kernel
set_option maxRecDepth 100000 in
theorem cZ_c : (cln cZ 12 10 = 12 ∧ ¬ cI cZ 11 0 3 < 0 ∧ cI cZ 11 0 1 = 0 ∧ cR cZ 11 0 0 = some 0 ∧ 0 < cn cZ 16 ∧ cln cZ 16 0 = 16) ∧ (∀ f, f < 16 → (cI cZ 16 0 f).toInt8.toInt32 = cI cZ 16 0 f) ∧ 15 ≤ cn cZ 18 ∧ (0 < cn cZ 6 ∧ cR cZ 6 0 1 = some 13 ∧ cR cZ 6 0 2 = some 14 ∧ cR cZ 6 0 3 = some 1) ∧ (14 < cn cZ 12 ∧ 1 < cn cZ 13 ∧ cln cZ 12 13 = 12 ∧ cln cZ 12 14 = 12 ∧ cln cZ 13 1 = 12) ∧ cI cZ 6 0 0 = nI 0 ∧ ∀ x, x < 12 → cI cZ 12 13 x = nI 0 ∧ cI cZ 12 14 x = nI 0 ∧ cI cZ 13 1 x = nI 0 := by decide +kernel
theorem g0_c : CR cZ g0 := by
  obtain ⟨a1, a2, a3, a4, a5⟩ := cZ_a
  obtain ⟨⟨b1, b2, b3, b4, b5⟩, b6, ⟨b7, b8, b9, b10⟩, b11, b12, b13, b14, b15, b16, b17, b18⟩ := cZ_b
  obtain ⟨⟨c1, c2, c3, c4, c5, c6⟩, c7, c8, c9, c10, c11, c12⟩ := cZ_c
  have ls : ∀ l k, l < cn cZ 10 → cI cZ 10 l 2 = nI 0 → cR cZ 10 l 1 = some 0 → CLs cZ l 0 k := fun l k h1 h2 h3 => ⟨h1, h2, 0, h3, b17, Nat.zero_le _, fun z => by omega, fun i h => absurd h (Nat.not_lt_zero i), by rw [b18]; omega⟩
  refine ⟨⟨a1, fun i h => absurd h (Nat.not_lt_zero i), fun i h => absurd h (Nat.not_lt_zero i), a2, a3, fun i h => absurd h (Nat.not_lt_zero i), a4, fun i h => absurd h (Nat.not_lt_zero i)⟩, ⟨a5, fun k h => absurd h (Nat.not_lt_zero k)⟩, ⟨⟨b1, ls 0 7 (by omega) b13 b15, b2, b3, b4, b5⟩, fun n h => absurd h (Nat.not_lt_zero n), fun k hk => b6 k hk⟩, ⟨⟨b7, b8, b9, ls 1 9 (by omega) b14 b16, b10⟩, fun h z => absurd z (Nat.not_lt_zero h), fun h hh => b11 h hh, fun s z => absurd z (Nat.not_lt_zero s)⟩, ⟨⟨b18, fun e h _ => ?_, fun e h => ?_⟩, ⟨c1, c2, c3⟩, 0, c4, c5, Or.inl c6, fun f hf => c7 f (by rw [c6] at hf; exact hf)⟩, cZ_lb, c8, s0', c9, c10, c11, c12⟩
  · rw [b15] at h
    exact (Option.some.inj h).symm
  · rw [b16] at h
    rw [← Option.some.inj h]
    exact b17
theorem g0_rel : Rel g0 cZ (mI mZ 46 100) := ⟨g0_ok, g0_c, g0_m⟩
