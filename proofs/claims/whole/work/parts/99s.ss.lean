/-! WHAT HOLDS OF THE STATE: array classes -/
theorem arr_ex {s : State} {args : Array Value} {ty : FieldType} (h : (Cond.arrayClass ty).before args s = true) (hn : ∀ C, ty ≠ .object C) : ∃ cA : ClassId, ArrOfT s cA ty ∧ s.vm.findClass ("[" ++ ty.toString) = some cA := by
  obtain ⟨cA, kA, comp, h1, h2, h3⟩ := Cond.arrayClass_spec h
  exact ⟨cA, fun n z => ⟨fun k h => (by cases h), kA, h2, comp, h3⟩, h1⟩
theorem arr_all {s : State} {args : Array Value} (hts : ∀ x ∈ LW, x.before args s = true) (hts2 : ∀ w ∈ lw_tbl, w.before args s = true) : ∃ f : Nat → ClassId, ∀ (k : Nat) (q : ClassId × FieldType), [(f 0, FieldType.int), (f 1, .byte), (f 2, .long), (f 3, .boolean), (f 4, .object "TurnBrothers$City")][k]? = some q → ArrOfT s q.1 q.2 ∧ va_RA s q.1 q.2 := by
  obtain ⟨a0, b0, c0⟩ := arr_ex (hts _ arr_int) (fun C e => by cases e)
  obtain ⟨a1, b1', c1⟩ := arr_ex (hts _ arr_byte) (fun C e => by cases e)
  obtain ⟨a2, b2', c2⟩ := arr_ex (hts _ arr_long) (fun C e => by cases e)
  obtain ⟨a3, b3', c3⟩ := arr_ex (hts _ arr_boolean) (fun C e => by cases e)
  obtain ⟨comp, a4, kA, h1, -, h2, h3, h5⟩ := Cond.arrayOver_spec (hts2 (.arrayOver (.object "TurnBrothers$City")) (by decide +kernel))
  refine ⟨fun k => [a0, a1, a2, a3, a4].getD k 0, fun k q hq => ?_⟩
  have hk : k < 5 := (List.getElem?_eq_some_iff.mp hq).1
  rcases (by omega : k = 0 ∨ k = 1 ∨ k = 2 ∨ k = 3 ∨ k = 4) with e | e | e | e | e <;> subst e <;> obtain rfl := Option.some.inj hq
  · exact ⟨b0, c0⟩
  · exact ⟨b1', c1⟩
  · exact ⟨b2', c2⟩
  · exact ⟨b3', c3⟩
  · exact ⟨fun n z => ⟨fun k h => (by cases h), kA, h2, comp, h3⟩, kA, comp, h2, h3, h1, h5⟩
