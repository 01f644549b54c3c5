/-! the start: all that was there before -/
section N24
variable {s : State} {args : Array Value}
theorem s_G (hts : ∀ w ∈ lw_tbl, w.before args s = true) (hg : (Cond.and given_1 narrow_1).before args s = true) : ∃ (α0 : cAl) (cell : Cell), cG (fun q => s.heap.size ≤ q) α0 s s.heap ∧ s.heap[α0 17 0]? = some cell ∧ s.vm.findClass "[Ljava/lang/Object;" = some cell.cls ∧ (∀ z, cell.vm ≠ .statics z) ∧ cell.slots.size = 0 := by
  have hA : ∀ a : Nat, a < s.heap.size → ¬ (fun q : Nat => s.heap.size ≤ q) a := fun a h q => absurd h (Nat.not_lt.mpr q)
  obtain ⟨adK, adV, tS, tE⟩ := tx_all hg hA
  obtain ⟨ad, bE, bO, bI, bZ⟩ := vb_all hts hg hA
  obtain ⟨e0, cell, eE, eH, eC, eV, eL⟩ := aE_all hg
  obtain ⟨tV, tVe, tVT⟩ := va_Tof (f := fun j => .ref (ad j)) (by decide) (nr_at hg aV_w.1) (va_eqt (nr_at hg aV_w.2.1)) (fun j hj => va_eqv (nr_at hg (aV_w.2.2 j hj)) (bE j hj)) hA
  obtain ⟨tM, tMe, tMT⟩ := va_Tof (f := fun j => .int (vM.getD j 0)) (by decide) (nr_at hg aM_w.1) (va_eqt (nr_at hg aM_w.2.1)) (fun j hj => va_eqt (nr_at hg (aM_w.2.2 j hj))) hA
  obtain ⟨tO, tOe, tOT⟩ := va_Tof (f := fun j => .int (nI (48 + j % 10))) (by decide) (nr_at hg aO_w.1) (va_eqt (nr_at hg aO_w.2.1)) (fun j hj => va_eqt (nr_at hg (aO_w.2.2 j hj))) hA
  obtain ⟨tT, tTe, tTT⟩ := va_Tof (f := fun j => .int (nI (48 + j / 10))) (by decide) (nr_at hg aT_w.1) (va_eqt (nr_at hg aT_w.2.1)) (fun j hj => va_eqt (nr_at hg (aT_w.2.2 j hj))) hA
  obtain ⟨mi, hmi⟩ := va_Mi.of (C := "[Ljava/lang/Object;") (nr_at hg (i := 569) (by decide +kernel))
  obtain ⟨α0, h17, h18, h19, h20, h21, h22, h23, h24, h25⟩ : ∃ α : cAl, α 17 0 = e0 ∧ α 18 = ad ∧ α 19 = adK ∧ α 20 0 = tV ∧ α 20 1 = tM ∧ α 20 2 = tO ∧ α 20 3 = tT ∧ α 21 = adV ∧ α 22 0 = mi :=
    ⟨fun k i => if k = 17 then e0 else if k = 18 then ad i else if k = 19 then adK i else if k = 20 then (if i = 0 then tV else if i = 1 then tM else if i = 2 then tO else tT) else if k = 21 then adV i else mi, rfl, rfl, rfl, rfl, rfl, rfl, rfl, rfl, rfl⟩
  refine ⟨α0, cell, ?_, by rw [h17]; exact eH, eC, eV, eL⟩
  unfold cG
  rw [h17, h18, h19, h20, h21, h22, h23, h24, h25]
  have hev : ∀ i, i < 15 → (Term.static "Lorewick$Verb" (vN.getD i "") "LLorewick$Verb;").eval args s none [] s = some (.ref (ad i)) := bE
  refine ⟨⟨vx_Zqof (hts _ (tb_in (i := 552) (by decide +kernel))) (hts _ (tb_in (i := 17) (by decide +kernel))) (nr_at hg (i := 32) (by decide +kernel)) hA, vx_Zqof (hts _ (tb_in (i := 554) (by decide +kernel))) (hts _ (tb_in (i := 17) (by decide +kernel))) (nr_at hg (i := 33) (by decide +kernel)) hA, ms_all hts hg, s_wn hts⟩, ?_, ⟨bO, bI, bZ⟩, ?_, ?_, ?_⟩
  · refine ⟨va_Efof (nm := vN) (tm := fun i => txT (vT.getD i 0)) hev (fun i hi => nr_at hg (vb_w i hi).2.2.1) (fun i hi => tE _ (vb_w i hi).2.2.2.2.2) hA, va_Efof (nm := vN) (tm := fun i => .int (vP.getD i 0)) hev (fun i hi => nr_at hg (vb_w i hi).2.2.2.1) (fun i hi => rfl) hA, va_Efof (nm := vN) (tm := fun i => .int (vQ.getD i 0)) hev (fun i hi => nr_at hg (vb_w i hi).2.2.2.2.1) (fun i hi => rfl) hA, va_Efof (nm := vN) (tm := fun i => .int (nI i)) hev (fun i hi => nr_at hg (vb_w i hi).2.1) (fun i hi => rfl) hA⟩
  · exact ⟨va_Zref (hts _ (tb_in (i := 1100) (by decide +kernel))) (hts _ (tb_in (i := 1) (by decide +kernel))) tVe hA, tVT, va_Zref (hts _ (tb_in (i := 406) (by decide +kernel))) (hts _ (tb_in (i := 38) (by decide +kernel))) tMe hA, tMT⟩
  · exact ⟨tS, vk_R.of (hts _ (tb_in (i := 754) (by decide +kernel))) (tE 14 (by decide)), vk_R.of (hts _ (tb_in (i := 1135) (by decide +kernel))) (tE 15 (by decide)), vk_R.of (hts _ (tb_in (i := 1778) (by decide +kernel))) (tE 16 (by decide))⟩
  · exact ⟨va_Zref (hts _ (tb_in (i := 199) (by decide +kernel))) (hts _ (tb_in (i := 9) (by decide +kernel))) eE hA, va_Zof (hts _ (tb_in (i := 295) (by decide +kernel))) (hts _ (tb_in (i := 14) (by decide +kernel))) (va_eqi (nr_at hg (i := 8) (by decide +kernel))) hA, va_Zqof (hts _ (tb_in (i := 810) (by decide +kernel))) (hts _ (tb_in (i := 29) (by decide +kernel))) (nr_at hg (i := 34) (by decide +kernel)) hA, ⟨va_Zref (hts _ (tb_in (i := 1649) (by decide +kernel))) (hts _ (tb_in (i := 42) (by decide +kernel))) tOe hA, tOT, va_Zref (hts _ (tb_in (i := 1651) (by decide +kernel))) (hts _ (tb_in (i := 42) (by decide +kernel))) tTe hA, tTT⟩, hmi, va_AO.of (s_AO hts), hA e0 (Array.getElem?_eq_some_iff.mp eH).1⟩
theorem s_F (hts : ∀ w ∈ lw_tbl, w.before args s = true) (hg : (Cond.and given_1 narrow_1).before args s = true) : ∃ (D : va_G) (ca : Nat → ClassId) (α0 : cAl), sF s D ca α0 := by
  obtain ⟨a17, ho⟩ := s_over hts
  obtain ⟨D, ca, e17, hK⟩ := s_K hts ho
  obtain ⟨α0, cell, hG, h1, h2, h3, h4⟩ := s_G hts hg
  refine ⟨D, ca, α0, hK, hG, fun k i hk hi => ?_, (Array.getElem?_eq_some_iff.mp h1).1⟩
  obtain ⟨rfl, rfl⟩ := c00_n k i hk hi
  unfold cAt
  rw [if_pos ⟨rfl, rfl⟩]
  obtain ⟨-, kA, comp, f2, f3, f1, f4⟩ := ho
  refine ⟨ca 17, _, cell, cE_arrR, rfl, h1, ?_, h3, h4⟩
  rw [e17]
  exact Option.some.inj (h2.symm.trans f4)
end N24
