/-! The start: the class's object is made. -/
/-- what is there at the start -/
def sF (s : State) (D : va_G) (ca : Nat → ClassId) (α0 : cAl) : Prop := va_K D cCl (cTys ca) s ∧ cG (fun q => s.heap.size ≤ q) α0 s s.heap ∧ cP D ca α0 c00 s.heap ∧ α0 17 0 < s.heap.size
theorem c00_n : ∀ k i, k < 18 → i < cn c00 k → k = 17 ∧ i = 0 := by
  intro k i hk hi
  have h : i < if k = 17 then 1 else if k = 18 then 15 else 0 := hi
  by_cases q : k = 17
  · rw [if_pos q] at h
    omega
  · rw [if_neg q, if_neg (by omega)] at h
    omega
theorem c00_sh : cSh false c00 := ⟨(fun h => by cases h), fun k i f _ _ => rfl⟩
theorem cwi_X11 : cCallI RV 186 yX11_init cX11_init 1 0 := ⟨⟨wl_in (i := 46) (by decide +kernel), wl_in (i := 47) (by decide +kernel), wl_in (i := 1) (by decide +kernel), wl_in (i := 48) (by decide +kernel)⟩, rfl, by decide, by decide, by decide +kernel⟩
section D24
variable {p : Program} {l : Launch} {e : Env} {s : State} {m : MethodId} {below : List Frame} {meth : Method} {c : Code} {Q : State → Prop} {b : Nat} {ls : Array Slot} {D : va_G} {ca : Nat → ClassId} {α0 : cAl}
theorem start_c (hfix : p.tables.exec = Jvm.exec ∧ c.code = code ∧ c.maxLocals = 9 ∧ s.vm.findClass RV = some m.cls ∧ ∀ w ∈ wl, w.before #[Value.ref b] s = true) (F : sF s D ca α0) (hl : lv_has ls 9 [(0, .ref b)])
    (kk : ∀ (α2 : cAl) (H2 : Heap) (ls' : Array Slot), cP D ca α2 cZ H2 → cD (fun q => s.heap.size ≤ q) α2 cZ → cSh true cZ → (∀ k, 18 ≤ k → α2 k = α0 k) → α2 17 0 = α0 17 0 → va_S (fun q => s.heap.size ≤ q) s.heap H2 [] → lv_has ls' 9 [(1, .ref (α2 0 0)), (0, .ref b)] → W p l e room_1 s m #[Value.ref b] below meth c H2 [] 34 695 Q (F0 m 8 ls' [])) :
    W p l e room_1 s m #[Value.ref b] below meth c s.heap [] 0 0 Q (F0 m 0 ls []) := by
  obtain ⟨hx, hb, hml, hown, hts⟩ := hfix
  obtain ⟨hK, hG, hP0, h17'⟩ := F
  have C : cC p s m #[Value.ref b] c code 9 RV D ca (fun q => s.heap.size ≤ q) α0 := ⟨hx, hb, hml, hown, hts, hK, hG⟩
  have hM0 : cM D ca false (fun q => s.heap.size ≤ q) s.heap c00 α0 c00 α0 s.heap [] := ⟨hP0, ⟨fun k i k' i' h1 h2 h3 h4 _ => (by
    obtain ⟨a1, a2⟩ := c00_n k i h1 h3
    obtain ⟨b1, b2⟩ := c00_n k' i' h2 h4
    omega), fun k i h1 h2 h3 => absurd (c00_n k i h1 h2) h3⟩, c00_sh, va_S.rf, fun q hq => hq, cX.rf⟩
  have h17 : 0 < cn c00 17 := by decide
  refine c_new C hM0 (k := 0) (by decide) ⟨⟨wl_in (i := 44) (by decide +kernel), wl_in (i := 45) (by decide +kernel)⟩, wl_in (i := 1) (by decide +kernel)⟩ (Nat.le_of_ble_eq_true rfl) (Nat.le_of_ble_eq_true rfl) dLaw_law_0 (fun H1 α1 hX1 hM1 => ?_)
  have hM1 : cM D ca false (fun q => s.heap.size ≤ q) s.heap c00 α0 c01 α1 H1 [] := hM1
  refine W_st (st' := [.ref (α1 0 0)]) rfl ?_
  refine lv_dup hx hb dLaw_law_3 rfl ?_
  refine c_go1 (c_rI (k := 0) (j := 0) (x := some 0) (As := []) (rest := [.ref (α1 0 0)]) C hM1 h17 (by decide) (cc_X11_init0 l D ca (fun q => s.heap.size ≤ q) α1 c01 (some 0) cZ cZ_eq (by decide)) cwi_X11 ⟨rfl, rfl⟩ ⟨Nat.le_of_ble_eq_true rfl, Nat.le_of_ble_eq_true rfl⟩ rfl rfl (cats_le _ (Nat.le_of_ble_eq_true rfl)) hl.1 dLaw_law_4 ⟨Nat.le_of_ble_eq_true rfl, Nat.le_of_ble_eq_true rfl⟩) hM1 (fun H2 locs2 α2 hX2 hM2 => ?_)
  have e00 : α2 0 0 = α1 0 0 := hX2.2.1 0 0 (by decide)
  refine W_st (st' := [.ref (α2 0 0)]) (by rw [e00]; rfl) ?_
  refine lv_astore_n (lv' := [(1, .ref (α2 0 0)), (0, .ref b)]) hx hb dLaw_law_7 rfl hl (by decide) rfl (fun ls' hl' => ?_)
  refine va_forget (fun q hq => hM2.2.2.2.1.2.2 q hq) ?_
  obtain ⟨m1, m2, m3, m4, m5, m6⟩ := hM2
  exact kk α2 H2 ls' m1 m2 (cZ_sh m3) m6.2.2 (m6.2.1 17 0 h17) ⟨m4.1, m4.2.1, fun z hz => by cases hz⟩ hl'
end D24
