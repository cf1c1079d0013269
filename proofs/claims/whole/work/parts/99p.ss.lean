/-! WHAT HOLDS OF THE STATE: the classes -/
theorem cls_ok {s : State} {args : Array Value} (hts : ∀ x ∈ LW, x.before args s = true) : ∃ D : va_G, ∀ (c : Nat) (q : vw_C), vwCl[c]? = some q → u_Kn s q.1 q.2.1 q.2.2 (D.1 c) (D.2 c) := by
  obtain ⟨c0, i0, k0⟩ := u_known hts inW1 (hts _ instX1)
  obtain ⟨c1, i1, k1⟩ := u_known hts inW2 (hts _ instX2)
  obtain ⟨c2, i2, k2⟩ := u_known hts inW3 (hts _ instX3)
  obtain ⟨c3, i3, k3⟩ := u_known hts inW4 (hts _ instX4)
  obtain ⟨c4, i4, k4⟩ := u_known hts inW5 (hts _ instX5)
  obtain ⟨c5, i5, k5⟩ := u_known hts inW6 (hts _ instX6)
  obtain ⟨c6, i6, k6⟩ := u_known hts inW7 (hts _ instX7)
  obtain ⟨c7, i7, k7⟩ := u_known hts inW8 (hts _ instX8)
  obtain ⟨c8, i8, k8⟩ := u_known hts inW9 (hts _ instX9)
  obtain ⟨c9, i9, k9⟩ := u_known hts inW10 (hts _ instX10)
  obtain ⟨c10, i10, k10⟩ := u_known hts inW12 (hts _ instX12)
  obtain ⟨c11, i11, k11⟩ := u_known hts inW13 (hts _ instX13)
  refine ⟨(fun c => [c0, c1, c2, c3, c4, c5, c6, c7, c8, c9, c10, c11].getD c 0, fun c => [i0, i1, i2, i3, i4, i5, i6, i7, i8, i9, i10, i11].getD c i0), fun c q hq => ?_⟩
  have hc : c < 12 := (List.getElem?_eq_some_iff.mp hq).1
  rcases (by omega : c = 0 ∨ c = 1 ∨ c = 2 ∨ c = 3 ∨ c = 4 ∨ c = 5 ∨ c = 6 ∨ c = 7 ∨ c = 8 ∨ c = 9 ∨ c = 10 ∨ c = 11) with e | e | e | e | e | e | e | e | e | e | e | e <;> subst e <;> obtain rfl := Option.some.inj hq
  · exact k0
  · exact k1
  · exact k2
  · exact k3
  · exact k4
  · exact k5
  · exact k6
  · exact k7
  · exact k8
  · exact k9
  · exact k10
  · exact k11
