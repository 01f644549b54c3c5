/-! The start: the reference's object, the arrays, the loop. -/
theorem cG.narrow {A B : Nat → Prop} {α : cAl} {U : State} {H : Heap} (h : cG A α U H) (hAB : ∀ q, B q → A q) : cG B α U H := by
  obtain ⟨⟨a1, a2, a3⟩, ⟨b1, b2, b3, b4⟩, ⟨d1, d2, d3⟩, ⟨e1, e2, e3, e4⟩, ⟨f1, f2⟩, g1, g2, g3, ⟨g4, g5, g6, g7⟩, g8, g9, g10⟩ := h
  exact ⟨⟨a1.narrow hAB, a2.narrow hAB, a3⟩, ⟨b1.narrow hAB, b2.narrow hAB, b3.narrow hAB, b4.narrow hAB⟩, ⟨fun i hi => (d1 i hi).narrow hAB, d2, fun i hi => (d3 i hi).narrow hAB⟩, ⟨e1.narrow hAB, e2.narrow hAB, e3.narrow hAB, e4.narrow hAB⟩, ⟨f1.narrow hAB, f2⟩, g1.narrow hAB, g2.narrow hAB, g3.narrow hAB, ⟨g4.narrow hAB, g5.narrow hAB, g6.narrow hAB, g7.narrow hAB⟩, g8, g9, fun z => g10 (hAB _ z)⟩
theorem iPre_blind {D : va_G} {ca : Nat → ClassId} {α : Nat → Nat} {A : Nat → Prop} {av : List Value} : FrameBlind (va_Pc av (iPre D ca α A)) := fun _ _ _ _ q => ⟨q.1, q.2.1, va_K.moved (Vm.Alike.refl _) q.2.2.1, q.2.2.2⟩
theorem cwi_X12 : cCallI RV 189 yX12_init cX12_init 1 0 := ⟨⟨wl_in (i := 1842) (by decide +kernel), wl_in (i := 1843) (by decide +kernel), wl_in (i := 16) (by decide +kernel), wl_in (i := 1844) (by decide +kernel)⟩, rfl, by decide, by decide, by decide +kernel⟩
theorem iF_0 (α : Nat → Nat) : (List.range 53).map (iF mZ 0 α) = (List.range 53).map (iF mZ 0 fun _ => 0) := by
  refine List.map_congr_left fun k _ => ?_
  unfold iF
  simp
theorem iF_d : ∀ j, j < 53 → defaultValue (tyX12 j) = vp_V ((List.range 53).map (iF mZ 0 fun _ => 0)) j := by decide +kernel
section E24
variable {p : Program} {l : Launch} {e : Env} {s : State} {m : MethodId} {below : List Frame} {meth : Method} {c : Code} {Q : State → Prop} {b : Nat} {ls : Array Slot} {Dm : va_G} {cm : Nat → ClassId} {lv : List (Nat × Value)} {H2 : Heap} {x1 : Nat}
theorem start_m (hfix : p.tables.exec = Jvm.exec ∧ c.code = code ∧ c.maxLocals = 9 ∧ s.vm.findClass RV = some m.cls ∧ ∀ w ∈ wl, w.before #[Value.ref b] s = true) (hKm : va_K Dm mCl (mTy cm) s) (hsz : s.heap.size ≤ H2.size) (hl : lv_has ls 9 [(1, .ref x1), (0, .ref b)])
    (kk : ∀ (μ : Nat → Nat) (H4 : Heap) (ls' : Array Slot), va_P Dm mCl (mW cm μ (mI mZ 46 100)) H4 → va_D (fun q => H2.size ≤ q) (mW cm μ (mI mZ 46 100)) → va_S (fun q => H2.size ≤ q) H2 H4 [] → lv_has ls' 9 [(2, .ref (μ 0)), (1, .ref x1), (0, .ref b)] → W p l e room_1 s m #[Value.ref b] below meth c H4 [] 72 8324 Q (F0 m 16 ls' [])) :
    W p l e room_1 s m #[Value.ref b] below meth c H2 [] 34 695 Q (F0 m 8 ls []) := by
  obtain ⟨hx, hb, hml, hown, hts⟩ := hfix
  refine va_new (D := Dm) (cl := mCl) (tys := mTy cm) (ws := []) (A := fun q => H2.size ≤ q) (H0 := H2) (ci := 0) (C := RX12) (T := TX12) (N := 53) (fs := (List.range 53).map (iF mZ 0 fun _ => 0)) hx hb hts mw_in tyX12 tyX12_ok hown (hts _ (wl_in (i := 1840) (by decide +kernel))) (hts _ (wl_in (i := 1841) (by decide +kernel))) (hts _ (wl_in (i := 16) (by decide +kernel))) hKm (fun k q h => by simp at h) ⟨fun i j p q h => by simp at h, fun k q h => by simp at h⟩ va_S.rf (fun q h => h) rfl iF_d (Nat.le_of_ble_eq_true rfl) (Nat.le_of_ble_eq_true rfl) dLaw_law_8 (fun q H3 hP3 hD3 hS3 => ?_)
  refine lv_dup hx hb dLaw_law_11 rfl ?_
  have ew : iW mZ cm 0 (fun _ => q) = [] ++ [(q, .inr (0, (List.range 53).map (iF mZ 0 fun _ => 0)))] := by
    unfold iW
    rw [iF_0]
    rfl
  rw [← ew] at hP3 hD3
  refine l_run (va_runI (b := q) (As := []) (rest := [.ref q]) ⟨hx, hb, hml, hown, hts⟩ (cm_init l Dm cm (fun _ => q) (fun q => H2.size ≤ q)) (cwI 0 hts (mws_goodN cwi_X12.1.2.2.2) rfl rfl rfl (hts _ cwi_X12.1.2.2.1) (hts _ cwi_X12.1.1) (hts _ cwi_X12.1.2.1) cwi_X12.2.1 cwi_X12.2.2 ⟨Nat.le_of_ble_eq_true rfl, Nat.le_of_ble_eq_true rfl⟩) ⟨iPre_blind, fun U hU hW => ⟨rfl, by rw [hU]; exact hP3, va_K.moved hW.alike hKm, hD3, fun q' hq' => Nat.le_trans hS3.1 (by rw [← hU]; exact hq')⟩⟩ rfl rfl hl.1 rfl (lv_room (Nat.le_of_ble_eq_true rfl)) dLaw_law_12 ⟨Nat.le_of_ble_eq_true rfl, Nat.le_of_ble_eq_true rfl⟩) hS3 (fun q h => h) (fun _ _ _ h => h.2) (fun v st₀ t H4 locs4 ht hvm hq hsz4 hfr hS4 => ?_)
  obtain ⟨⟨μ, e1, e2, hB⟩, -⟩ := hq
  cases e2
  refine W_st (st' := [.ref (μ 0)]) (by rw [e1]; rfl) ?_
  refine lv_astore_n (lv' := [(2, .ref (μ 0)), (1, .ref x1), (0, .ref b)]) hx hb dLaw_law_15 rfl hl (by decide) rfl (fun ls' hl' => ?_)
  refine va_forget (fun z hz => Nat.le_trans hsz (hS4.2.2 z hz)) ?_
  exact kk μ H4 ls' (by rw [← ht]; exact hB.1) hB.2.2 ⟨hS4.1, hS4.2.1, fun z hz => by cases hz⟩ hl'
end E24
