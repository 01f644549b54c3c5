/-! The start: the class's classes and rows, by the tables; the row of objects as a premise. -/
theorem s_ins : ∀ k, k < 12 → tables_1[([45, 53, 75, 168, 181, 227, 259, 967, 935, 1439, 187, 286] : List Nat).getD k 0]? = some (Cond.instantiable (cRn k) (cNn k)) := by decide +kernel
section I24
variable {s : State} {args : Array Value}
theorem s_Kn (hts : ∀ w ∈ lw_tbl, w.before args s = true) : ∃ D : va_G, ∀ k, k < 12 → u_Kn s (cRn k) (cTt k) (cNn k) (D.1 k) (D.2 k) := by
  have h : ∀ k, ∃ q : ClassId × (Nat → Nat), k < 12 → u_Kn s (cRn k) (cTt k) (cNn k) q.1 q.2 := fun k => by
    by_cases hk : k < 12
    · obtain ⟨cC, iS, h⟩ := u_known (C := cRn k) (T := cTt k) (N := cNn k) (s_wl hts) (c_in k hk) (hts _ (tb_in (s_ins k hk)))
      exact ⟨(cC, iS), fun _ => h⟩
    · exact ⟨(default, fun _ => 0), fun z => absurd z hk⟩
  exact ⟨(fun k => (Classical.choose (h k)).1, fun k => (Classical.choose (h k)).2), fun k hk => Classical.choose_spec (h k) hk⟩
theorem s_K (hts : ∀ w ∈ lw_tbl, w.before args s = true) {a17 : ClassId} (ho : ArrOfT s a17 (.object "java/lang/Object") ∧ va_RA s a17 (.object "java/lang/Object")) : ∃ (D : va_G) (ca : Nat → ClassId), ca 17 = a17 ∧ va_K D cCl (cTys ca) s := by
  obtain ⟨D, hD⟩ := s_Kn hts
  obtain ⟨a2, b2, d2⟩ := arr_of (hts (Cond.arrayClass .int) (tb_in (i := 73) (by decide +kernel)))
  obtain ⟨a3, b3, d3⟩ := arr_of (hts (Cond.arrayClass .boolean) (tb_in (i := 166) (by decide +kernel)))
  obtain ⟨a4, b4, d4⟩ := arr_of (hts (Cond.arrayClass .char) (tb_in (i := 72) (by decide +kernel)))
  obtain ⟨a5, b5, d5⟩ := arr_of (hts (Cond.arrayClass .long) (tb_in (i := 165) (by decide +kernel)))
  obtain ⟨a6, b6, d6⟩ := arr_of (hts (Cond.arrayClass .byte) (tb_in (i := 317) (by decide +kernel)))
  refine ⟨D, fun k => if k = 12 then a2 else if k = 13 then a3 else if k = 14 then a4 else if k = 15 then a5 else if k = 16 then a6 else a17, rfl, fun k q hq => ?_, fun k q hq => ?_⟩
  · have hk : k < 12 := (List.getElem?_eq_some_iff.mp hq).1
    rw [cCl_at k hk] at hq
    cases hq
    exact hD k hk
  · match k, hq with
    | 0, hq => cases hq; exact ⟨b2, d2⟩
    | 1, hq => cases hq; exact ⟨b3, d3⟩
    | 2, hq => cases hq; exact ⟨b4, d4⟩
    | 3, hq => cases hq; exact ⟨b5, d5⟩
    | 4, hq => cases hq; exact ⟨b6, d6⟩
    | 5, hq => cases hq; exact ho
    | k + 6, hq => simp at hq
end I24
