/-! The start: what the tables and the Statement say of it: the words, the exceptions' classes. -/
theorem tb_in {w : Cond} {i : Nat} (h : tables_1[i]? = some w) : w ∈ lw_tbl := List.mem_append_right _ (List.mem_of_getElem? h)
section G24
variable {s : State} {args : Array Value}
theorem s_sbs (hts : ∀ w ∈ lw_tbl, w.before args s = true) : ∀ w ∈ c_sbs, w.before args s = true := by
  have hi := hts (Cond.instantiable "java/lang/StringBuilder" 4) (tb_in (i := 286) (by decide +kernel))
  have one : ∀ (y : MethodName) (a b c : Nat), y.cls ≠ "java/lang/invoke/MethodHandle" ∧ y.cls ≠ "java/lang/invoke/VarHandle" → tables_1[a]? = some (Cond.privateMethod y) → tables_1[b]? = some (Cond.instanceMethod y) → tables_1[c]? = some (Cond.sameMethod y.cls y.cls y.name y.desc) → (Cond.selects "java/lang/StringBuilder" y y).before args s = true :=
    fun y a b c h0 h1 h2 h3 => c_selp h0 hi (hts _ (tb_in h1)) (hts _ (tb_in h2)) (hts _ (tb_in h3))
  intro w hw
  simp only [c_sbs, List.map_cons, List.map_nil, List.mem_cons, List.not_mem_nil, or_false] at hw
  rcases hw with rfl | rfl | rfl | rfl
  · exact one _ 1570 1571 2429 (by decide) (by decide +kernel) (by decide +kernel) (by decide +kernel)
  · exact one _ 1574 1575 2430 (by decide) (by decide +kernel) (by decide +kernel) (by decide +kernel)
  · exact one _ 1602 1603 2431 (by decide) (by decide +kernel) (by decide +kernel) (by decide +kernel)
  · exact one _ 1606 1607 2432 (by decide) (by decide +kernel) (by decide +kernel) (by decide +kernel)
theorem s_wl (hts : ∀ w ∈ lw_tbl, w.before args s = true) : ∀ w ∈ wl, w.before args s = true := wl_before hts (s_sbs hts)
theorem s_wn (hts : ∀ w ∈ lw_tbl, w.before args s = true) : ∀ w ∈ wn, va_Nw w s := fun w hw => by
  obtain ⟨h1, h2⟩ := List.mem_filter.mp hw
  have h := hts w h1
  cases w <;> first | exact va_Nw.of rfl h | exact absurd h2 (by simp [c_isN])
theorem s_nc (h : (Cond.and given_1 narrow_1).before args s = true) : lNc s := by
  have hs := flat_of_before _ h
  intro i j a1 a2 b1 b2 ne
  rcases (show i = 1 ∨ i = 2 ∨ i = 3 ∨ i = 4 ∨ i = 5 ∨ i = 6 by omega) with rfl | rfl | rfl | rfl | rfl | rfl <;> rcases (show j = 1 ∨ j = 2 ∨ j = 3 ∨ j = 4 ∨ j = 5 ∨ j = 6 by omega) with rfl | rfl | rfl | rfl | rfl | rfl <;> first | exact absurd rfl ne | exact va_Nc.of (hs _ (by decide +kernel))
end G24
