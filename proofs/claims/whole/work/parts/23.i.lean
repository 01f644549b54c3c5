/-! The law's cases: floats; calls that throw nothing. -/
theorem share_f2d {x : UInt32} (h : x.toNat % 2 ^ 31 < 161 * 2 ^ 23) : vf_n64 (FP.f2d x) ∧ FP.dcmp (FP.f2d x) (FP.f2d x) = some .eq := by
  have hF : FP.Core.FFin x := FP.Core.fin_of_lt32 h (by omega)
  have hD : FP.Core.DFin (FP.f2d x) := by
    have e : FP.f2d x = FP.Core.f2d x := FP.f2d_core hF.notNaN
    rw [e]
    exact FP.Core.f2d_fin hF
  have hb := hD
  rw [FP.Core.fin_bits] at hb
  exact ⟨num64 hb, FP.Core.dcmp_self hD.ne_nan⟩
theorem mean_self {x : UInt64} (h : x.toNat % 2 ^ 63 < 1057 * 2 ^ 52) : FP.dcmp x x = some .eq :=
  FP.Core.dcmp_self (FP.Core.fin_of_lt h (by omega)).ne_nan
section I23
variable {p : Program} {l : Launch} {e : Env} {R : Room} {s : State} {m : MethodId} {args : Array Value} {below : List Frame} {meth : Method} {c : Code} {H : Heap} {locs : List Loc} {cells slots mc ms : Nat} {Q : State → Prop}
variable {pc b L : Nat} {xs : Nat → Int32} {ls : Array Slot} {rest st : List Value} {D Dm : va_G} {ca cm : Nat → ClassId} {cO cOd : ClassId} {α0 α : cAl} {lo hm hi bo bd : Nat} {μ : Nat → Nat} {σ u : cS} {τ : mS} {f f' : Nat → Int64} {fd fd' : Nat → UInt64}
variable {y : MethodName} {by' : ByteArray} {maxL n index k : Nat} {ret : Option FieldType} {rm : Room} {As : List Value} {fl : Bool} {hh : List (Nat × Nat × Nat × Nat)}
theorem l_cls {v : Int32} (X : lX p s m c b L xs D Dm ca cm cO cOd α0 lo hm hi bo bd) (J : lJ s D Dm ca cm cO cOd α0 lo hm hi bo bd μ σ τ α f fd H locs)
    (hc : cMet fl l y by' maxL ret rm mc ms D ca true (lA s.heap.size lo hi) α σ [cr α 0 (some 0)] (fun _ => some (.int v)) u) (hw : cCallV RV index (cRn 0) y by' maxL ret 0) (hrm : rm.cells = mc ∧ rm.slots = ms) (hR : rm.frames + 1 ≤ R.frames ∧ 8 + (maxL + 11) + rm.locals ≤ R.locals) (hrest : (rest.map fun v => v.category).sum ≤ 8) (hls : ls.size = 9) (hdg : decode code pc = .ok (.invokevirtual index, 3)) (hRc : cells + mc ≤ R.cells ∧ slots + ms ≤ R.slots)
    (kk : ∀ (α1 : cAl) (H1 : Heap) (locs1 : List Loc), lJ s D Dm ca cm cO cOd α0 lo hm hi bo bd μ u τ α1 f fd H1 locs1 → W p l e R s m #[Value.ref b] below meth c H1 locs1 (cells + mc) (slots + ms) Q (F0 m (pc + 3) ls (.int v :: rest))) :
    W p l e R s m #[Value.ref b] below meth c H locs cells slots Q (F0 m pc ls (.ref (α0 0 0) :: rest)) := by
  have hpre := l_pre X J J.2.2.1.1 X.2.2.1.2.2.1
  obtain ⟨⟨hx, hb, hml, hown, hts⟩, -, ⟨hK, -⟩, -, -, hreg, -⟩ := id X
  obtain ⟨⟨j1, j2, j3, j4, j5⟩, ⟨j6, j7⟩, ⟨j8, j9⟩, hS, hHi⟩ := id J
  have h00 : 0 < cn σ 0 := Nat.lt_of_lt_of_le (by decide) ((j3.1 rfl).2.1 0 (by decide))
  have hP := j1.one (k := 0) (by omega) h00
  rw [cE_obj (by decide)] at hP
  have e0 : (.ref (α0 0 0) :: rest : List Value) = ([] : List Value).reverse ++ .ref (α 0 0) :: rest := by rw [j5.2]; rfl
  rw [e0]
  refine l_run (va_runV (As := []) (rest := rest) ⟨hx, hb, hml, hown, hts⟩ hc (cwV 0 hts (mws_good hw.1) rfl hrm.1 hrm.2 hw.2 hR) ⟨cPre_blind, va_recv hK hP (cCl_at 0 (by decide)) (q0 := 0) rfl, fun U hU hW => ⟨rfl, (hpre U hU hW).1⟩⟩ rfl rfl hls rfl (lv_room hrest) hdg hRc) hS (fun q hq => hq.1) (fun _ _ _ h => h.2) (fun v' st₀ t H1 locs1 ht hvm hq hsz hfr hS1 => ?_)
  obtain ⟨⟨α1, e1, e2, e3⟩, -⟩ := hq
  cases e2
  obtain ⟨c1, c2, c3, c4, c5⟩ := e3
  have h17 : 0 < cn σ 17 := Nat.lt_of_lt_of_le (by decide) ((j3.1 rfl).2.1 17 (by decide))
  refine kk α1 H1 locs1 ⟨⟨by rw [← ht]; exact c1, c3, c4, fun k hk => (c5.2.2 k hk).trans (j4 k hk), (c5.2.1 17 0 h17).trans j5.1, (c5.2.1 0 0 h00).trans j5.2⟩, ⟨lJ_m j6 j7 hfr (fun q hq z => ?_), j7⟩, ⟨fun k q hk => (j8 k q hk).kept (hfr _ (j8 k q hk).lt (fun z => ?_)), fun k q hk => (j9 k q hk).kept (hfr _ (j9 k q hk).lt (fun z => ?_))⟩, hS1, Nat.le_trans hHi hsz⟩
  · unfold lB at hq
    unfold lA at z
    omega
  · have hq := List.mem_of_getElem? hk
    rw [List.mem_singleton] at hq
    rw [hq] at z
    unfold lA at z
    dsimp only at z
    omega
  · have hq := List.mem_of_getElem? hk
    rw [List.mem_singleton] at hq
    rw [hq] at z
    unfold lA at z
    dsimp only at z
    omega
end I23
