/-! The law's own methods: what each asks and gives; their handlers. -/
/-- an exception's class among the law's constants -/
def lPl (k : Nat) : Nat := match k with
  | 1 => 13
  | 2 => 15
  | 3 => 21
  | 4 => 31
  | 5 => 96
  | _ => 180
theorem lPl_0 (k : Nat) : lPl k ≠ 0 := by
  unfold lPl
  split <;> decide
theorem lPl_in {k : Nat} (h1 : 1 ≤ k) (h2 : k ≤ 6) : Cond.classLink RV (lPl k) (cEx k) ∈ wl := by
  rcases (show k = 1 ∨ k = 2 ∨ k = 3 ∨ k = 4 ∨ k = 5 ∨ k = 6 by omega) with rfl | rfl | rfl | rfl | rfl | rfl
  · exact wl_in (i := 519) (by decide +kernel)
  · exact wl_in (i := 520) (by decide +kernel)
  · exact wl_in (i := 620) (by decide +kernel)
  · exact wl_in (i := 679) (by decide +kernel)
  · exact wl_in (i := 1234) (by decide +kernel)
  · exact wl_in (i := 1811) (by decide +kernel)
theorem lCa_in {k : Nat} (h1 : 1 ≤ k) (h2 : k ≤ 6) : Cond.castable (cEx k) (cEx k) ∈ wn := by
  rcases (show k = 1 ∨ k = 2 ∨ k = 3 ∨ k = 4 ∨ k = 5 ∨ k = 6 by omega) with rfl | rfl | rfl | rfl | rfl | rfl
  · exact wn_in (i := 527) (by decide +kernel)
  · exact wn_in (i := 599) (by decide +kernel)
  · exact wn_in (i := 640) (by decide +kernel)
  · exact wn_in (i := 717) (by decide +kernel)
  · exact wn_in (i := 1246) (by decide +kernel)
  · exact wn_in (i := 1823) (by decide +kernel)
/-- of two exceptions none is the other -/
def lNc (U : State) : Prop := ∀ i j, 1 ≤ i → i ≤ 6 → 1 ≤ j → j ≤ 6 → i ≠ j → va_Nc (cEx i) (cEx j) U
theorem lNc.moved {u U : State} (hvm : u.vm.Alike U.vm) (h : lNc u) : lNc U := fun i j a b c d e => (h i j a b c d e).moved hvm
/-- the table of a method that catches ex, in this order -/
def lHh (ex : List Nat) (e : Nat) (hp : Nat → Nat) : List (Nat × Nat × Nat × Nat) := (List.range ex.length).map fun j => (0, e, hp j, lPl (ex.getD j 0))
abbrev lWs (y : MethodName) (cc : ByteArray) (nL : Nat) (hh : List (Nat × Nat × Nat × Nat)) : List Cond := Cond.codeWith y cc nL (some .int) hh :: wl
/-- an array of one long, of one double -/
abbrev lO (bo : Nat) (cO : ClassId) (f : Nat → Int64) : va_W := [(bo, .inl (cO, 1, .inr (.inl f)))]
abbrev lOd (bo : Nat) (cO : ClassId) (f : Nat → UInt64) : va_W := [(bo, .inl (cO, 1, .inr (.inr (.inr (.inl f)))))]
def lPre (D : va_G) (ca : Nat → ClassId) (A : Nat → Prop) (α : cAl) (σ : cS) (O : va_W) (tys : List (ClassId × FieldType)) (U : State) : Prop := cPre D ca true A α σ U ∧ va_P D [] O U.heap ∧ va_K D [] tys U ∧ lNc U
def lQ (fl : Bool) (D : va_G) (ca : Nat → ClassId) (A A' : Nat → Prop) (α : cAl) (σ : cS) (k : Nat) (u : cS) (O : va_W) : Array Value → State → Outcome → State → Prop := fun _ st oc t => (∃ α1 : cAl, (fl = false → α1 = α) ∧ oc = .returned (some (.int (nI k))) ∧ cPo D ca true A α σ u α1 t ∧ va_P D [] O t.heap) ∧ va_F A' st t
abbrev lMet (fl : Bool) (l : Launch) (y : MethodName) (cc : ByteArray) (nL : Nat) (hh : List (Nat × Nat × Nat × Nat)) (rm : Room) (mc ms : Nat) (D : va_G) (ca : Nat → ClassId) (A : Nat → Prop) (bo : Nat) (α : cAl) (σ : cS) (As : List Value) (O : va_W) (tys : List (ClassId × FieldType)) (k : Nat) (u : cS) (O' : va_W) : Prop :=
  Met l y (lWs y cc nL hh) rm (va_Pc As (lPre D ca A α σ O tys)) (lQ fl D ca A (fun q => A q ∨ q = bo) α σ k u O') mc ms (fun q => A q ∨ q = bo)
theorem lPre_blind {D : va_G} {ca : Nat → ClassId} {A : Nat → Prop} {α : cAl} {σ : cS} {O : va_W} {tys : List (ClassId × FieldType)} {av : List Value} : FrameBlind (va_Pc av (lPre D ca A α σ O tys)) := fun a U g mk q => by
  obtain ⟨q1, q2, q3, q4, q5⟩ := q
  exact ⟨q1, (cPre_blind (av := av) a U g mk ⟨q1, q2⟩).2, q3, va_K.moved (Vm.Alike.refl _) q4, lNc.moved (Vm.Alike.refl _) q5⟩
section L22
variable {p : Program} {l : Launch} {e : Env} {R : Room} {s : State} {m : MethodId} {args : Array Value} {below : List Frame} {meth : Method} {c : Code} {H : Heap} {locs : List Loc} {cells slots : Nat} {Q : State → Prop}
variable {ex : List Nat} {pe pc j k : Nat} {hp : Nat → Nat} {ls : Array Slot} {rest : List Value} {ce : Cell} {q : Addr}
theorem l_catch (hown : s.vm.findClass RV = some m.cls) (hts : ∀ w ∈ wl, w.before args s = true) (hwn : ∀ w ∈ wn, va_Nw w s) (hN : lNc s) (htab : c.exceptionTable.toList = tableOf (lHh ex pe hp)) (hpc : pc < pe) (h6 : ∀ x ∈ ex, 1 ≤ x ∧ x ≤ 6) (hnd : ex.Nodup) (hj : ex[j]? = some k) (hcell : H[q]? = some ce) (hv : ce.vm = .none) (hcl : s.vm.findClass (cEx k) = some ce.cls)
    (kk : W p l e R s m args below meth c H locs cells slots Q (F0 m (hp j) ls [.ref q])) : vx_W p l e R s m args below meth c H locs cells slots Q (F0 m pc ls rest) q := by
  obtain ⟨hjl, hjk⟩ := List.getElem?_eq_some_iff.mp hj
  obtain ⟨k1, k2⟩ := h6 k (hjk ▸ List.getElem_mem hjl)
  obtain ⟨T, hT⟩ : ∃ T, T = tableOf (lHh ex pe hp) := ⟨_, rfl⟩
  have hlen : T.length = ex.length := by
    rw [hT]
    unfold tableOf lHh
    rw [List.length_map, List.length_map, List.length_range]
  have hat : ∀ i (hi : i < T.length), T[i] = ⟨0, pe, hp i, lPl (ex.getD i 0)⟩ := by
    intro i hi
    have e : T[i]? = some ⟨0, pe, hp i, lPl (ex.getD i 0)⟩ := by
      rw [hT]
      unfold tableOf lHh
      rw [List.getElem?_map, List.getElem?_map, List.getElem?_range (by omega)]
      rfl
    rw [List.getElem?_eq_getElem hi] at e
    exact Option.some.inj e
  have hjT : j < T.length := by omega
  have hgd : ∀ i (hi : i < ex.length), ex.getD i 0 = ex[i] := fun i hi => by rw [List.getD_eq_getElem?_getD, List.getElem?_eq_getElem hi]; rfl
  have hcov : ∀ h t, covers ⟨0, pe, h, t⟩ pc = true := fun h t => by
    simp [covers, hpc]
  refine vx_catch (name := cEx k) (E := cEx k) hown (T.take j) T[j] (T.drop (j + 1)) ?_ (fun z hz => ?_) ?_ ?_ ?_ ?_ hcell hv hcl ?_
  · rw [htab, ← hT, ← List.drop_eq_getElem_cons hjT, List.take_append_drop]
  · obtain ⟨i, hi, rfl⟩ := List.getElem_of_mem hz
    rw [List.length_take] at hi
    have hij : i < j := by omega
    rw [List.getElem_take, hat i (by omega)]
    have hie : i < ex.length := by omega
    obtain ⟨c1, c2⟩ := h6 _ (List.getElem_mem hie)
    refine Or.inr ⟨lPl_0 _, cEx (ex.getD i 0), hts _ (by rw [hgd i hie]; exact lPl_in c1 c2), hN _ _ k1 k2 (by rw [hgd i hie]; exact c1) (by rw [hgd i hie]; exact c2) (fun z => ?_)⟩
    rw [hgd i hie, ← hjk] at z
    have := (List.getElem_inj hnd).mp z
    omega
  · rw [hat j hjT]
    exact hcov _ _
  · rw [hat j hjT]
    exact lPl_0 _
  · rw [hat j hjT, hgd j hjl, hjk]
    exact hts _ (lPl_in k1 k2)
  · exact (hwn _ (lCa_in k1 k2)).use rfl
  · rw [hat j hjT]
    exact kk
end L22
