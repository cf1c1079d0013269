/-! WHAT HOLDS OF THE STATE: the texts' bytes -/
def wEc : List Cond := oW.flatMap fun i => (List.range (wLn.getD i 0)).map fun j => Cond.eq (.elem (.field (wTx i) "java/lang/String" "value" "[B") (.int (Int32.ofNat j))) (.int ((wBy.getD i []).getD j 0))
theorem w_ec : subE wEc FLc = true := by decide +kernel
theorem oW_m : ∀ i, i < 23 → i ∈ oW := by decide +kernel
theorem w_tel : ∀ i, i < 23 → ∀ j, j < wLn.getD i 0 → Cond.eq (.elem (.field (wTx i) "java/lang/String" "value" "[B") (.int (Int32.ofNat j))) (.int ((wBy.getD i []).getD j 0)) ∈ FLc :=
  fun i hi j hj => subE_ok _ _ w_ec _ (List.mem_flatMap.mpr ⟨i, oW_m i hi, List.mem_map.mpr ⟨j, List.mem_range.mpr hj, rfl⟩⟩)
theorem wLn_s : ∀ i, i < 23 → wLn.getD i 0 < 2 ^ 31 := by decide +kernel
theorem wBy_d : ∀ i, i < 23 → ∀ j, j < 23 → wLn.getD i 0 = wLn.getD j 0 → (∀ k, k < wLn.getD i 0 → (wBy.getD i []).getD k 0 = (wBy.getD j []).getD k 0) → i = j := by decide +kernel
theorem OF_un {o n d : String} {v v' : Value} {t : Nat} {A : Nat → Prop} {U : State} {H : Heap} (h : va_OF o n d v t A U H) (h' : va_OF o n d v' t A U H) : v = v' := by
  obtain ⟨cf, k, i, f, cell, a1, a2, a3, a4, a5, a6⟩ := h
  obtain ⟨cf', k', i', f', cell', b1, b2, b3, b4, b5, b6⟩ := h'
  rw [a1] at b1
  cases b1
  rw [a3] at b3
  cases b3
  rw [a5] at b5
  exact Option.some.inj b5
theorem T_un {ty : FieldType} {t N N' : Nat} {f f' : Nat → Value} {A : Nat → Prop} {U : State} {H : Heap} (h : va_T ty t N f A U H) (h' : va_T ty t N' f' A U H) (hN : N < 2 ^ 31) (hN' : N' < 2 ^ 31) : N = N' ∧ ∀ j, j < N → f j = f' j := by
  obtain ⟨cell, a1, a2, a3, a4, a5, a6, a7⟩ := h
  obtain ⟨cell', b1, b2, b3, b4, b5, b6, b7⟩ := h'
  rw [a1] at b1
  cases b1
  have e : N = N' := (nI_eq hN hN').mp (a5.symm.trans b5)
  refine ⟨e, fun j hj => ?_⟩
  have h1 := a6 j hj
  rw [b6 j (by omega)] at h1
  exact (Option.some.inj h1).symm
/-! the texts: their cells, their bytes, apart -/
theorem tx_ok {s : State} {args : Array Value} {A : Nat → Prop} (hgv : (Jvm.Cond.and given_1 narrow_1).before args s = true) (hA : ∀ a : Nat, a < s.heap.size → ¬ A a) : ∃ adK adV : Nat → Nat, vk_S 23 wLn wBy adK adV A s s.heap ∧ ∀ i, i < 23 → (wTx i).eval args s none [] s = some (.ref (adK i)) := by
  have h0 : ∀ i : Nat, ∃ q : Nat × Nat, i < 23 → (wTx i).eval args s none [] s = some (.ref q.1) ∧ va_O "java/lang/String" q.1 A s s.heap ∧ va_OF "java/lang/String" "coder" "B" (.int 0) q.1 A s s.heap ∧ va_OF "java/lang/String" "value" "[B" (.ref q.2) q.1 A s s.heap ∧ va_T .byte q.2 (wLn.getD i 0) (fun j => .int ((wBy.getD i []).getD j 0)) A s s.heap := by
    intro i
    by_cases hi : i < 23
    · obtain ⟨a, c, cA, kA, q1, q2, q3, q4, q5, q6, -⟩ := Cond.exactly_spec (args := args) (first := s) (o := none) (s := s) (idx := []) (t := wTx i) (cls := "java/lang/String") (flat_of_before _ hgv _ (w_tex i hi))
      obtain ⟨t, ht, hT⟩ := va_Tof (f := fun j => .int ((wBy.getD i []).getD j 0)) (A := A) (wLn_s i hi) (flat_of_before _ hgv _ (w_tar i hi)) (va_eqt (flat_of_before _ hgv _ (w_tle i hi))) (fun j hj => va_eqt (flat_of_before _ hgv _ (w_tel i hi j hj))) hA
      exact ⟨(a, t), fun _ => ⟨q1, ⟨cA, q3, q5, by rw [q6]; exact q2, hA a (Array.getElem?_eq_some_iff.mp q3).1⟩, vk_OFof q1 (va_eqt (flat_of_before _ hgv _ (w_tco i hi))) hA, vk_OFof q1 ht hA, hT⟩⟩
    · exact ⟨(0, 0), fun h => absurd h hi⟩
  obtain ⟨ad, had⟩ := Classical.axiomOfChoice h0
  refine ⟨fun i => (ad i).1, fun i => (ad i).2, ⟨fun i hi => (had i hi).2, fun i j hi hj e => ?_⟩, fun i hi => (had i hi).1⟩
  have e' : (ad i).1 = (ad j).1 := e
  have hI := (had i hi).2.2.2.1
  have hJ := (had j hj).2.2.2.1
  rw [e'] at hI
  have hv : (ad i).2 = (ad j).2 := Value.ref.inj (OF_un hI hJ)
  have hTI := (had i hi).2.2.2.2
  have hTJ := (had j hj).2.2.2.2
  rw [hv] at hTI
  obtain ⟨k1, k2⟩ := T_un hTI hTJ (wLn_s i hi) (wLn_s j hj)
  exact wBy_d i hi j hj k1 fun k hk => Value.int.inj (k2 k hk)
