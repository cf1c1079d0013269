/-! THE MEMORY of the two objects, their world, and the goal GG with its rows: what every method's walk stands on -/
def LW : List Cond := lw_tbl.filter goodWord
theorem LW_good {x : Cond} (h : x ∈ LW) : goodWord x = true := (List.mem_filter.mp h).2
theorem LW_tbl {x : Cond} (h : x ∈ LW) : x ∈ lw_tbl := (List.mem_filter.mp h).1
theorem LW_of {x : Cond} (i : Nat) (h : lw_tbl[i]? = some x) (g : goodWord x = true) : x ∈ LW := List.mem_filter.mpr ⟨List.mem_of_getElem? h, g⟩
theorem LW_in {y : MethodName} {bytes : ByteArray} {maxL : Nat} {ret : Option FieldType} (h : Cond.code y bytes maxL ret ∈ LW) : GoodIn LW (Cond.code y bytes maxL ret :: LW) := by
  intro x hx
  rcases List.mem_cons.mp hx with rfl | hx
  · exact ⟨h, good_of_word (LW_good h)⟩
  · exact ⟨hx, good_of_word (LW_good hx)⟩
/-- what the tables say of a callee -/
def CE (y : MethodName) (bytes : ByteArray) (maxL : Nat) (ret : Option FieldType) (n : Nat) : Prop := Cond.code y bytes maxL ret ∈ LW ∧ Cond.initialized y.cls ∈ LW ∧ y.cls ≠ "java/lang/invoke/MethodHandle" ∧ y.cls ≠ "java/lang/invoke/VarHandle" ∧ (parseMethodDescriptor y.desc).map (fun d => d.parameters.length) = some n
