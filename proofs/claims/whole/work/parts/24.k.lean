/-! The start: what the Statement gives of it, by places. -/
def flatA : Jvm.Cond → List Jvm.Cond → List Jvm.Cond
  | .and a b, acc => flatA a (flatA b acc)
  | c, acc => c :: acc
theorem flatA_eq (T : Jvm.Cond) : ∀ acc, flatA T acc = flatC T ++ acc := by
  induction T with
  | and a b iha ihb => intro acc; simp only [flatA, flatC, iha, ihb, List.append_assoc]
  | _ => intro acc; rfl
def nr : List Cond := flatA (Cond.and given_1 narrow_1) []
section K24
variable {s : State} {args : Array Value}
theorem nr_at (hg : (Cond.and given_1 narrow_1).before args s = true) {w : Cond} {i : Nat} (hi : nr[i]? = some w) : w.before args s = true := by
  refine flat_of_before _ hg w ?_
  have h := List.mem_of_getElem? hi
  unfold nr at h
  rwa [flatA_eq, List.append_nil] at h
end K24
/-! the seventeen texts -/
def txO (i : Nat) : String := if i < 14 then "Lorewick$Verb" else "Lorewick"
def txK : List Nat := [80, 86, 89, 92, 95, 98, 101, 104, 107, 110, 114, 117, 120, 123, 545, 590, 654]
abbrev txT (i : Nat) : Term := Term.string (txO i) (txK.getD i 0)
def txX : List Nat := [1631, 1625, 1671, 1679, 1687, 1695, 1704, 1713, 1722, 1640, 1730, 1647, 1654, 1662, 748, 1129, 1589]
theorem tx_w : ∀ i, i < 17 → nr[txX.getD i 0]? = some (Cond.exactly (txT i) "java/lang/String") ∧ nr[txX.getD i 0 + 1]? = some (Cond.eq (.field (txT i) "java/lang/String" "coder" "B") (.int 0)) ∧ nr[txX.getD i 0 + 2]? = some (Cond.arrayOf (.field (txT i) "java/lang/String" "value" "[B") .byte) ∧ nr[txX.getD i 0 + 3]? = some (Cond.eq (.length (.field (txT i) "java/lang/String" "value" "[B")) (.int (Int32.ofNat (tL.getD i 0)))) ∧ ∀ j, j < tL.getD i 0 → nr[txX.getD i 0 + 4 + j]? = some (Cond.eq (.elem (.field (txT i) "java/lang/String" "value" "[B") (.int (Int32.ofNat j))) (.int ((tB.getD i []).getD j 0))) := by decide +kernel
theorem tx_sm : ∀ i, i < 17 → tL.getD i 0 < 2 ^ 31 := by decide +kernel
theorem tx_ap : ∀ i, i < 17 → ∀ j, j < 17 → Int32.ofNat (tL.getD i 0) = Int32.ofNat (tL.getD j 0) → (∀ k, k < tL.getD i 0 → k < tL.getD j 0 → (tB.getD i []).getD k 0 = (tB.getD j []).getD k 0) → i = j := by decide +kernel
section L24
variable {s : State} {args : Array Value} {A : Nat → Prop}
theorem tx_one (hg : (Cond.and given_1 narrow_1).before args s = true) (hA : ∀ a : Nat, a < s.heap.size → ¬ A a) {i : Nat} (hi : i < 17) : ∃ q : Nat × Nat, (txT i).eval args s none [] s = some (.ref q.1) ∧ va_O "java/lang/String" q.1 A s s.heap ∧ va_OF "java/lang/String" "coder" "B" (.int 0) q.1 A s s.heap ∧ va_OF "java/lang/String" "value" "[B" (.ref q.2) q.1 A s s.heap ∧ va_T .byte q.2 (tL.getD i 0) (fun j => .int ((tB.getD i []).getD j 0)) A s s.heap := by
  obtain ⟨w1, w2, w3, w4, w5⟩ := tx_w i hi
  obtain ⟨a, c, cA, kA, q1, q2, q3, q4, q5, q6, -⟩ := Cond.exactly_spec (args := args) (first := s) (o := none) (s := s) (idx := []) (t := txT i) (cls := "java/lang/String") (nr_at hg w1)
  obtain ⟨t, ht, hT⟩ := va_Tof (f := fun j => .int ((tB.getD i []).getD j 0)) (A := A) (tx_sm i hi) (nr_at hg w3) (va_eqt (nr_at hg w4)) (fun j hj => va_eqt (nr_at hg (w5 j hj))) hA
  exact ⟨(a, t), q1, ⟨cA, q3, q5, by rw [q6]; exact q2, hA a (Array.getElem?_eq_some_iff.mp q3).1⟩, vk_OFof q1 (va_eqt (nr_at hg w2)) hA, vk_OFof q1 ht hA, hT⟩
theorem tx_all (hg : (Cond.and given_1 narrow_1).before args s = true) (hA : ∀ a : Nat, a < s.heap.size → ¬ A a) : ∃ adK adV : Nat → Nat, vk_S 17 tL tB adK adV A s s.heap ∧ ∀ i, i < 17 → (txT i).eval args s none [] s = some (.ref (adK i)) := by
  have h0 : ∀ i : Nat, ∃ q : Nat × Nat, i < 17 → (txT i).eval args s none [] s = some (.ref q.1) ∧ va_O "java/lang/String" q.1 A s s.heap ∧ va_OF "java/lang/String" "coder" "B" (.int 0) q.1 A s s.heap ∧ va_OF "java/lang/String" "value" "[B" (.ref q.2) q.1 A s s.heap ∧ va_T .byte q.2 (tL.getD i 0) (fun j => .int ((tB.getD i []).getD j 0)) A s s.heap := by
    intro i
    by_cases hi : i < 17
    · obtain ⟨q, hq⟩ := tx_one hg hA hi
      exact ⟨q, fun _ => hq⟩
    · exact ⟨(0, 0), fun h => absurd h hi⟩
  obtain ⟨ad, had⟩ := Classical.axiomOfChoice h0
  refine ⟨fun i => (ad i).1, fun i => (ad i).2, ⟨fun i hi => (had i hi).2, fun i j hi hj e => ?_⟩, fun i hi => (had i hi).1⟩
  have e' : (ad i).1 = (ad j).1 := e
  obtain ⟨-, -, -, ⟨cf, k, fi, f, cell, h1, h2, h3, h4, h5, h6⟩, ⟨c1, a1, a2, a3, a4, a5, a6, a7⟩⟩ := had i hi
  obtain ⟨-, -, -, ⟨cf', k', fi', f', cell', g1, g2, g3, g4, g5, g6⟩, ⟨c2, b1, b2, b3, b4, b5, b6, b7⟩⟩ := had j hj
  rw [e', g3] at h3
  cases h3
  cases h1.symm.trans g1
  have ev : (ad i).2 = (ad j).2 := Value.ref.inj (Option.some.inj (h5.symm.trans g5))
  rw [ev, b1] at a1
  cases a1
  exact tx_ap i hi j hj (a5.symm.trans b5) (fun k hk1 hk2 => Value.int.inj (Option.some.inj ((a6 k hk1).symm.trans (b6 k hk2))))
end L24
