/-! The start: the reference's classes and rows, by the tables. -/
section H24
variable {s : State} {args : Array Value}
theorem arr_of {ty : FieldType} (h : (Cond.arrayClass ty).before args s = true) : ∃ cA : ClassId, ArrOfT s cA ty ∧ s.vm.findClass ("[" ++ ty.toString) = some cA := by
  obtain ⟨cA, kA, comp, h1, h2, h3⟩ := Cond.arrayClass_spec h
  exact ⟨cA, fun n z => ⟨fun k h => (by cases h), kA, h2, comp, h3⟩, h1⟩
theorem s_Km (hts : ∀ w ∈ lw_tbl, w.before args s = true) : ∃ (Dm : va_G) (cm : Nat → ClassId), va_K Dm mCl (mTy cm) s := by
  have hwl := s_wl hts
  obtain ⟨cC, iS, hk⟩ := u_known (C := RX12) (T := TX12) (N := 53) hwl mw_in (hts (Cond.instantiable RX12 53) (tb_in (i := 1841) (by decide +kernel)))
  obtain ⟨a2, b2, d2⟩ := arr_of (hts (Cond.arrayClass .int) (tb_in (i := 73) (by decide +kernel)))
  obtain ⟨a3, b3, d3⟩ := arr_of (hts (Cond.arrayClass .boolean) (tb_in (i := 166) (by decide +kernel)))
  obtain ⟨a4, b4, d4⟩ := arr_of (hts (Cond.arrayClass .char) (tb_in (i := 72) (by decide +kernel)))
  obtain ⟨a5, b5, d5⟩ := arr_of (hts (Cond.arrayClass .long) (tb_in (i := 165) (by decide +kernel)))
  refine ⟨(fun _ => cC, fun _ => iS), fun k => if k = 2 then a2 else if k = 3 then a3 else if k = 4 then a4 else a5, fun k q hq => ?_, fun k q hq => ?_⟩
  · match k, hq with
    | 0, hq => cases hq; exact hk
    | k + 1, hq => simp at hq
  · match k, hq with
    | 0, hq => cases hq; exact ⟨b2, d2⟩
    | 1, hq => cases hq; exact ⟨b3, d3⟩
    | 2, hq => cases hq; exact ⟨b4, d4⟩
    | 3, hq => cases hq; exact ⟨b5, d5⟩
    | k + 4, hq => simp at hq
end H24
