/-! WHAT HOLDS OF THE STATE: texts of exceptions -/
theorem wMs_x : ∀ q ∈ wMs, Cond.exactly (.string q.1 q.2.1) "java/lang/String" ∈ flatC (Jvm.Cond.and given_1 narrow_1) := by decide +kernel
theorem exa_ref {t : Term} {C : String} {args : Array Value} {s : State} (h : (Cond.exactly t C).before args s = true) : ∃ a : Nat, t.eval args s none [] s = some (.ref a) := by
  have := Cond.exactly_spec h
  obtain ⟨a, -, -, -, h1, -⟩ := this
  exact ⟨a, h1⟩
theorem SM_ok {s : State} {args : Array Value} (hts : ∀ w ∈ lw_tbl, w.before args s = true) (hgv : (Jvm.Cond.and given_1 narrow_1).before args s = true) : SM s := fun q hq => by
  obtain ⟨a, ha⟩ := exa_ref (flat_of_before _ hgv _ (wMs_x q hq))
  exact ⟨a, vk_R.of (hts _ (wMs_t q hq)) ha⟩
