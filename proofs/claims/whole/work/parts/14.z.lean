/-! The state behind the class's constructor. -/
def c00 : cS := (fun k => if k = 17 then 1 else if k = 18 then 15 else 0, fun _ _ => 0, fun _ => 0, fun _ _ _ => 0, fun _ _ _ => 0, fun _ _ _ => none)
def c01 : cS := uN c00 0 0 0
set_option maxRecDepth 100000 in
theorem cZ_some : (fc_X11_init0 c01 (some 0)).isSome = true := by decide +kernel
def cZ : cS := (fc_X11_init0 c01 (some 0)).get cZ_some
theorem cZ_eq : fc_X11_init0 c01 (some 0) = some cZ := (Option.some_get cZ_some).symm
set_option maxRecDepth 100000 in
theorem cZ_bk : ∀ q ∈ cBk, cR cZ q.1 q.2.1 q.2.2.1 = some q.2.2.2 := by decide +kernel
set_option maxRecDepth 100000 in
theorem cZ_lb : ∀ k, k < 18 → cLb.getD k 0 ≤ cn cZ k := by decide +kernel
set_option maxRecDepth 100000 in
theorem cZ_ln : ∀ q ∈ cLns, cln cZ q.1 q.2.1 = q.2.2 := by decide +kernel
/-- behind the constructor the shape holds -/
theorem cZ_sh (h : cSh false cZ) : cSh true cZ := ⟨fun _ => ⟨cZ_bk, cZ_lb, cZ_ln⟩, h.2⟩
theorem c01_sh : cSh false c01 := ⟨(fun h => by cases h), fun k i f hk hi => by
  have e : cR c01 k i f = none := by
    show (if k = 0 ∧ i = _ then none else none) = none
    split <;> rfl
  rw [e]; rfl⟩
