/-! The start: the row of objects; both tables. -/
section J24
variable {s : State} {args : Array Value}
theorem s_over (hts : ∀ w ∈ lw_tbl, w.before args s = true) : ∃ a17 : ClassId, ArrOfT s a17 (.object "java/lang/Object") ∧ va_RA s a17 (.object "java/lang/Object") := by
  obtain ⟨comp, cA, kA, f1, f0, f2, f3, f4⟩ := Cond.arrayOver_spec (hts (Cond.arrayOver (.object "java/lang/Object")) (tb_in (i := 1065) (by decide +kernel)))
  exact ⟨cA, fun N z => ⟨fun k h => (by cases h), kA, f2, comp, f3⟩, kA, comp, f2, f3, f1, f4⟩
theorem s_AO (hts : ∀ w ∈ lw_tbl, w.before args s = true) : (Cond.arrayOver (.object "java/lang/Object")).before args s = true := hts _ (tb_in (i := 1065) (by decide +kernel))
end J24
