/-! To go to a named node: jump. -/
section K19
variable {g : Gm} {σ : cS} {τ : mS}
theorem fc_lettersOfAll_s {l : List Nat} (hl : isTx l) (hX : CTx σ l) : fc_X7_lettersOfAll σ = some (sP8 l, σ) := by
  unfold fc_X7_lettersOfAll
  have h := fc_packed_s hl hX (i := 0) (e := l.length) (Nat.zero_le _) (Nat.le_refl _)
  rw [Nat.sub_zero, sSeg_all] at h
  rw [hX.1, show (0 : Int32) = nI 0 from rfl, h, Option.bind_some]
/-- what is typed is cleared -/
theorem Rel.clear {g : Gm} {σ : cS} {τ : mS} (h : Rel g σ τ) : Rel (g.w, [], g.t, g.p) (uI σ 1 0 3 0) (mI τ 2 0) := by
  obtain ⟨⟨k1, k2, k3⟩, ⟨c1, c2, d3, d4, d5, d6, d7, s0, d8⟩, ⟨m1, m2, e3, e4, e5, e6⟩⟩ := h
  have hf : cFr [(1, 0)] σ (uI σ 1 0 3 0) := cFr.I (List.mem_singleton.mpr rfl)
  have hr : mFr [2] τ (mI τ 2 0) := mFr.I (List.mem_singleton.mpr rfl)
  exact ⟨⟨k1, ⟨Nat.zero_le _, fun c h => by cases h⟩, k3⟩,
    ⟨c1.fr d6 hf (by decide), ⟨by rw [uI_at, if_pos rfl]; rfl, fun k hk => absurd hk (Nat.not_lt_zero k)⟩, d3.fr hf d6 (fun q hq => by rw [List.mem_singleton] at hq; rw [hq]; simp) rfl rfl rfl rfl, d4.fr hf d6 (by simp) (by simp) (by simp) (by simp) (fun e _ => by simp) (fun s _ => by simp) rfl, ⟨d5.1.fr hf d6 (by simp) (by simp), d5.2.fr d6 hf (by decide)⟩, d6.fr hf, d7, s0, d8.fr hf (fun q hq => by rw [List.mem_singleton] at hq; rw [hq]; unfold cSc; simp)⟩,
    ⟨m1.fr hr (by decide), ⟨mI_at _ _ _, fun k hk => absurd hk (Nat.not_lt_zero k)⟩, e3.fr hr (by decide), e4.fr hr (by decide), e5.fr hr (by decide), e6.fr hr (by decide)⟩⟩
theorem meth_jump (hR : Rel g σ τ) : Alk [2, 5] g (fc_X11_jump σ) (fm_jump τ) := by
  have hC := hR.2.1.2.2.1
  have hX := hR.2.1.2.1
  have hl := hR.1.2.1
  have ht := hR.1.2.2.1
  have h80 := ht.1.1
  have hM := hR.2.2.2.2.1
  have hM0 : MTr (mI τ 0 (nI 0)) g.w g.t := hM.fr (mFr.I (List.mem_singleton.mpr rfl)) (by decide)
  have hN0 : MNm (mI τ 0 (nI 0)) g.t := hR.2.2.2.2.2.2.1.fr (ks := [0]) (mFr.I (by decide)) (by decide)
  have hX0 : MTx (mI τ 0 (nI 0)) g.l := hR.2.2.2.1.fr (ks := [0]) (mFr.I (by decide)) (by decide) (by decide)
  have bad : ∀ k, 0 < k → k < 1000 → fm_jump_25 τ (nI k) = some (0, mI τ 0 (nI k)) := fun k h1 h2 => by
    unfold fm_jump_25
    rw [wrong_s τ (by omega) h1]
    exact if_neg nz1
  unfold fc_X11_jump fm_jump
  rw [fc_needPlay_s hC h80, hM.1.2.2]
  by_cases z : g.t.N = 0
  · rw [if_pos z, if_pos (show bI (decide (0 < g.t.N)) = 0 by rw [decide_eq_false (by omega)]; rfl)]
    exact Alk.x (c := 2) (j := 0) (v := 0) hR rfl (bad 1 (by omega) (by omega)) rfl
  · rw [if_neg z, if_neg (show ¬ bI (decide (0 < g.t.N)) = 0 by rw [decide_eq_true (by omega)]; decide), fm_named_s ht hM hR.2.2.2.2.2.2.1 hl hR.2.2.2.1, Option.bind_some]
    show Alk [2, 5] g ((fc_X7_lettersOfAll σ).bind fun r_2 => (fc_X8_nodeLabelled r_2.2 r_2.1).bind fun r_3 => if r_3.1 = (-1 : Int32) then some (.inl 5, r_3.2) else some (.inr r_3.1, (uI (uI r_3.2 4 0 2 r_3.1) 1 0 3 (0 : Int32)))) (if oI (sNamed g.t g.l) = (-1 : Int32) then fm_jump_25 τ 2 else fm_jump_25 τ 0)
    rw [fc_lettersOfAll_s hl hX, Option.bind_some, fc_nodeLabelled_s ht hC hl, Option.bind_some]
    have nam : ∀ o, sNamed g.t g.l = o → Alk [2, 5] g (if oI o = (-1 : Int32) then some (.inl 5, σ) else some (.inr (oI o), (uI (uI σ 4 0 2 (oI o)) 1 0 3 (0 : Int32)))) (if oI o = (-1 : Int32) then fm_jump_25 τ 2 else fm_jump_25 τ 0) := by
      intro o ho
      cases o with
      | none =>
        rw [if_pos (show oI none = (-1 : Int32) from rfl), if_pos (show oI none = (-1 : Int32) from rfl)]
        exact Alk.x (c := 5) (j := 1) (v := 0) hR rfl (bad 2 (by omega) (by omega)) rfl
      | some m =>
        have hm : m < g.t.N := by
          have := List.mem_of_find?_eq_some ho
          rw [List.mem_range'_1] at this
          omega
        rw [if_neg (show ¬ oI (some m) = (-1 : Int32) from fun h => (jM1 (a := m) (by omega)).mp h), if_neg (show ¬ oI (some m) = (-1 : Int32) from fun h => (jM1 (a := m) (by omega)).mp h)]
        have e : fm_jump_25 τ 0 = some (nI m, mI (mI (mI τ 0 (nI 0)) 34 (nI m)) 2 0) := by
          unfold fm_jump_25
          rw [show (0 : Int32) = nI 0 from rfl, right_s]
          show (if nI 0 = nI 0 then ((fm_named (mI τ 0 (nI 0))).bind fun r_2 => some (((mI (mI r_2.2 34 r_2.1) 2 (nI 0)).1 34), (mI (mI r_2.2 34 r_2.1) 2 (nI 0)))) else _) = _
          rw [if_pos rfl, fm_named_s ht hM0 hN0 hl hX0, Option.bind_some, ho]
          show some ((mI (mI (mI τ 0 (nI 0)) 34 (nI m)) 2 (nI 0)).1 34, _) = _
          rw [mI_ne _ _ (by decide), mI_at]
          rfl
        have hR1 : Rel (gAt g m) (uI σ 4 0 2 (nI m)) (mI (mI τ 0 (nI 0)) 34 (nI m)) := ⟨hR.1.at_ hm, hR.2.1.at_ m, (hR.2.2.th _).at_ m⟩
        exact ⟨_, .inr (nI m), _, nI m, _, rfl, e, by rw [mI_ne _ _ (by decide), mI_ne _ _ (by decide), mI_at]; exact Agr.v, hR1.clear⟩
    exact nam _ rfl
end K19
