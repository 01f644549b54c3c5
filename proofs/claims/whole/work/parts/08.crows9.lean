/-! Enum.ordinal; a method's start with references; a switch's default. -/
section CO
variable {p : Program} {l : Launch} {e : Env} {R : Room} {s : State} {m : MethodId} {args : Array Value} {below : List Frame} {meth : Method} {c : Code} {H : Heap} {locs : List Loc} {cells slots : Nat} {Q : State → Prop}
variable {cc : ByteArray} {nL pc : Nat} {own : String} {ls : Array Slot} {rest st : List Value} {D : va_G} {ca : Nat → ClassId} {b : Bool} {A : Nat → Prop} {H0 : Heap} {σ0 σ : cS} {α0 α : cAl}
theorem lg_r {k : Nat} {x : Option Nat} {vs : List Value} : lg_sl (cr α k x :: vs) = .val (cr α k x) :: lg_sl vs := by simp [lg_sl, cr_cat]
theorem lg_i {x : Int32} {vs : List Value} : lg_sl (.int x :: vs) = .val (.int x) :: lg_sl vs := rfl
theorem lg_l {x : Int64} {vs : List Value} : lg_sl (.long x :: vs) = .val (.long x) :: .second :: lg_sl vs := rfl
theorem lg_n : lg_sl [] = [] := rfl
theorem la_r {i k : Nat} {x : Option Nat} {vs : List Value} : lv_args i (cr α k x :: vs) = (i, cr α k x) :: lv_args (i + 1) vs := by simp [lv_args, cr_cat]
theorem la_i {i : Nat} {x : Int32} {vs : List Value} : lv_args i (.int x :: vs) = (i, .int x) :: lv_args (i + 1) vs := rfl
theorem la_l {i : Nat} {x : Int64} {vs : List Value} : lv_args i (.long x :: vs) = (i, .long x) :: lv_args (i + 2) vs := rfl
theorem la_n {i : Nat} : lv_args i [] = [] := rfl
abbrev rc_ord : Room := { frames := 0, cells := 0, slots := 0, locals := 0 }
theorem cc_ord (l : Launch) (D : va_G) (ca : Nat → ClassId) (b : Bool) (A : Nat → Prop) (α : cAl) (σ : cS) {x : Option Nat} {i : Nat} (hd : dv x = some i) : cMet false l yJx29ce0_ordinal_8abf5 cJx29ce0_ordinal_8abf5 1 (some .int) rc_ord 0 0 D ca b A α σ [cr α 18 x] (fun _ => some (.int (nI i))) σ := by
  refine Met.ofW (cc := cJx29ce0_ordinal_8abf5) (maxL := 1) (ret := some .int) (by decide) rfl ?_
  intro p e s m args below meth c s₁ B hml hv
  obtain ⟨rfl, hP, hK, hD0, hSh, hA, hG⟩ := hv
  have C : cC p s m _ c cJx29ce0_ordinal_8abf5 1 RJx29ce0 D ca A α := ⟨B.exec, B.bytes, hml, findClass_of_methodNamed B.named, fun w hw => atoms_spec (ws := mWs yJx29ce0_ordinal_8abf5 cJx29ce0_ordinal_8abf5 1 (some .int)) B.pre w (List.mem_cons_of_mem _ hw), hK, hG⟩
  have hM : cM D ca b A s.heap σ α σ α s.heap [] := ⟨hP, hD0, hSh, va_S.rf, hA, cX.rf⟩
  have hx := C.1
  have hb := C.2.1
  obtain ⟨rfl, hi⟩ := dv_of hd
  have hl := lv_entry ([cr α 18 (some i)]) (n := 1) (Nat.le_of_ble_eq_true rfl)
  rw [lg_entry_eq]
  generalize (lg_sl ([cr α 18 (some i)]) ++ List.replicate (1 - (lg_sl ([cr α 18 (some i)])).length) Slot.unset).toArray = ls at hl ⊢
  have hl : lv_has ls 1 [(0, cr α 18 (some i))] := hl
  refine c_aload_n (t := 18) (x := some i) hx hb dJx29ce0_ordinal_8abf5_0 rfl (lv_at hl 0 rfl) ?_
  refine c_vord C hM hi (wl_in (i := 2479) (by decide +kernel)) dJx29ce0_ordinal_8abf5_1 ?_
  exact c_ri (o := (nI i, σ)) C hM (fun _ => rfl) B.returns B.notSynchronized dJx29ce0_ordinal_8abf5_4 rfl
theorem c_ordinal (C : cC p s m args c cc nL own D ca A α0) (hM : cM D ca b A s.heap σ0 α0 σ α H locs) (h17 : 0 < cn σ0 17) {i index : Nat} {x : Option Nat} (hd : dv x = some i) (hl : Cond.methodLink own index ⟨"Lorewick$Verb", "ordinal", "()I"⟩ ∈ wl) (hrest : (rest.map fun v => v.category).sum ≤ 8) (hf : 1 ≤ R.frames) (hlo : 20 ≤ R.locals) (hRc : cells ≤ R.cells ∧ slots ≤ R.slots) (hls : ls.size = nL) (hdg : decode cc pc = .ok (.invokevirtual index, 3))
    (kk : ∀ (H1 : Heap) (locs1 : List Loc), cM D ca b A s.heap σ0 α0 σ α H1 locs1 → W p l e R s m args below meth c H1 locs1 cells slots Q (F0 m (pc + 3) ls (.int (nI i) :: rest))) : W p l e R s m args below meth c H locs cells slots Q (F0 m pc ls (cr α 18 x :: rest)) := by
  obtain ⟨hx, hb, hml, hown, hts, hK, hG⟩ := id C
  obtain ⟨rfl, hi⟩ := dv_of hd
  have hrec : ∃ cell : Cell, H[α 18 i]? = some cell ∧ cell.vm.isStatics = false ∧ s.vm.findClass "Lorewick$Verb" = some cell.cls := by
    obtain ⟨cell, h1, h2, h3, -⟩ := (hG.2.2.1.1 i hi).kept hM.2.2.2.1.2.1
    rw [congrFun (hM.2.2.2.2.2.2.2 18 (by omega)) i]
    exact ⟨cell, h1, h2, h3⟩
  have hgd : GoodIn wl (va_wsU own index "Lorewick$Verb" RJx29ce0 ⟨"Lorewick$Verb", "ordinal", "()I"⟩ yJx29ce0_ordinal_8abf5 (mWs yJx29ce0_ordinal_8abf5 cJx29ce0_ordinal_8abf5 1 (some .int))) := by
    intro w hw
    have hm : w ∈ wl := by
      simp only [va_wsU, mWs, List.cons_append, List.nil_append, List.mem_cons] at hw
      rcases hw with h | h | h | h | h | h | h
      · rw [h]; exact hl
      · rw [h]; exact wl_in (i := 408) (by decide +kernel)
      · rw [h]; exact wl_in (i := 410) (by decide +kernel)
      · rw [h]; exact wl_in (i := 411) (by decide +kernel)
      · rw [h]; exact wl_in (i := 33) (by decide +kernel)
      · rw [h]; exact wl_in (i := 412) (by decide +kernel)
      · exact h
    exact ⟨hm, good_of_word (wl_good w hm)⟩
  exact c_go0 (rv := fun _ => some (.int (nI i))) (u := σ) (mc := 0) (ms := 0) (rest := rest) (va_runU (As := []) (rest := rest) ⟨hx, hb, hml, hown, hts⟩ (cc_ord l D ca b A α σ hd) (va_cwU (maxL := 1) (mc := 0) (ms := 0) 0 hts hgd rfl rfl rfl rfl ⟨by decide, by decide, by decide +kernel⟩ ⟨hf, hlo⟩) ⟨cPre_blind, hrec, fun U hU hW => ⟨rfl, cM_pre C hM h17 U hU hW⟩⟩ rfl rfl hls rfl (lv_room hrest) hdg hRc) hM kk
end CO
