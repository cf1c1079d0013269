/-! THE FIRST MEMORY -/
def M00 : Mem := (fun _ _ => 0, fun _ _ => 0, fun _ _ => 0)
def ini12 : Option (Nat × Mem) := qX12_init 1 (z3 M00 0) 0
def ini13 : Option (Nat × Mem) := b3 ini12 fun n M => qX13_init (n + 1) (z3 M n) n
def iniX : Option (Nat × Mem) := b3 ini13 fun n M => some (n + 1, z3 M n)
def get2 (o : Option (Nat × Mem)) : Mem := match o with
  | some r => r.2
  | none => M00
theorem get2_eq {o : Option (Nat × Mem)} {n : Nat} (h : (o.map fun r => r.1) = some n) : o = some (n, get2 o) := by
  cases o with
  | none => cases h
  | some r =>
    obtain ⟨a, b⟩ := r
    injection h with h
    rw [← h]
    rfl
theorem ini12_n : (ini12.map fun r => r.1) = some 103 := by decide +kernel
theorem ini13_n : (ini13.map fun r => r.1) = some 144 := by decide +kernel
theorem iniX_n : (iniX.map fun r => r.1) = some 145 := by decide +kernel
def MI : Mem := get2 iniX
/-- references without the null -/
def MF : Mem := (MI.1, MI.2.1, fun a j => MI.2.2 a j - 1)
def Z0 (a j : Nat) : Bool := decide (gI MF a j = 0)
theorem zz_ok {l : List (Nat × Nat)} (h : (l.all fun p => Z0 p.1 p.2) = true) : ∀ p ∈ l, gI MF p.1 p.2 = 0 := fun p hp => of_decide_eq_true (List.all_eq_true.mp h p hp)
theorem zer : ∀ p ∈ [(29, 0), (29, 6), (29, 8), (37, 0), (40, 0), (34, 0), (34, 1), (44, 1), (44, 2), (45, 1), (45, 2), (103, 1), (103, 2), (103, 3), (103, 4), (103, 5), (108, 0), (108, 1), (91, 0), (103, 64), (93, 0), (103, 69), (0, 1), (103, 21), (0, 11), (103, 74), (2, 0), (2, 1), (2, 2), (117, 0), (117, 1), (117, 2)], gI MF p.1 p.2 = 0 := zz_ok (by decide +kernel)
theorem neg : (gI MF 103 6 = -1 ∧ gI MF 103 7 = -1) ∧ gI MF 0 2 = -1 ∧ gI MF 103 23 = -1 := by decide +kernel
theorem refs0 : (gR MF 3 1 = 4 ∧ gR MF 28 0 = 29) ∧ kd (gR MF 3 7) = 7 := by decide +kernel
theorem rows0 : ∀ j, j < 31 → rC MF 81 j = row0 j ∧ rB MF 0 j = row0 j := by decide +kernel
theorem rel0 : Rel LA0 MF := by
  have z : ∀ a j, (a, j) ∈ [(29, 0), (29, 6), (29, 8), (37, 0), (40, 0), (34, 0), (34, 1), (44, 1), (44, 2), (45, 1), (45, 2), (103, 1), (103, 2), (103, 3), (103, 4), (103, 5), (108, 0), (108, 1), (91, 0), (103, 64), (93, 0), (103, 69), (0, 1), (103, 21), (0, 11), (103, 74), (2, 0), (2, 1), (2, 2), (117, 0), (117, 1), (117, 2)] → gI MF a j = 0 := fun a j h => zer (a, j) h
  have hC : rC MF 81 = row0 := by
    funext j
    by_cases hj : j < 31
    · exact (rows0 j hj).1
    · unfold rC row0
      rw [if_neg hj, if_neg (by omega), if_neg (by omega), if_neg (by omega)]
  have hB : rB MF 0 = row0 := by
    funext j
    by_cases hj : j < 31
    · exact (rows0 j hj).2
    · unfold rB row0
      rw [if_neg hj, if_neg (by omega), if_neg (by omega), if_neg (by omega)]
  obtain ⟨iA, iR, -⟩ := invS0
  obtain ⟨⟨n1, n2⟩, n3, n4⟩ := neg
  obtain ⟨⟨r1, r2⟩, r3⟩ := refs0
  refine ⟨iA, ⟨by rw [r2]; decide, ?_⟩, ⟨z _ _ (by decide), z _ _ (by decide), z _ _ (by decide), z _ _ (by decide), z _ _ (by decide), z _ _ (by decide), z _ _ (by decide), fun d h => absurd h (Nat.not_lt_zero d), fun d h => absurd h (Nat.not_lt_zero d), fun d h => absurd h (Nat.not_lt_zero d), fun d h => absurd h (Nat.not_lt_zero d), fun d h => absurd h (Nat.not_lt_zero d), ?_, ?_, fun i _ => Nat.zero_le _⟩, hC.trans hB.symm, ?_, ⟨0, by decide, z _ _ (by decide), z _ _ (by decide), fun i h => absurd h (Nat.not_lt_zero i)⟩, ⟨0, by decide, z _ _ (by decide), z _ _ (by decide), fun i h => absurd h (Nat.not_lt_zero i)⟩, ⟨0, by decide, z _ _ (by decide), z _ _ (by decide), fun i h => absurd h (Nat.not_lt_zero i)⟩, fun i hi => ?_, n3.trans n4.symm, Or.inl ⟨z _ _ (by decide), z _ _ (by decide)⟩, ⟨by rw [r1]; decide, by rw [r1, r2]; decide, r3⟩⟩
  · rw [r2]
    exact ⟨z _ _ (by decide), z _ _ (by decide), z _ _ (by decide), z _ _ (by decide), z _ _ (by decide), z _ _ (by decide), z _ _ (by decide), fun d h => absurd h (Nat.not_lt_zero d), fun d h => absurd h (Nat.not_lt_zero d), fun d h => absurd h (Nat.not_lt_zero d), fun d h => absurd h (Nat.not_lt_zero d), fun d h => absurd h (Nat.not_lt_zero d), ⟨0, z _ _ (by decide), z _ _ (by decide), Nat.zero_le _, fun i h => absurd h (Nat.not_lt_zero i)⟩, ⟨0, z _ _ (by decide), z _ _ (by decide), Nat.zero_le _, fun i h => absurd h (Nat.not_lt_zero i)⟩, fun _ x hx => by cases hx⟩
  · unfold ruleM
    rw [if_pos (show aC LA0 0 = [] from rfl)]
    exact n1
  · unfold ruleM
    rw [if_pos (show aC LA0 1 = [] from rfl)]
    exact n2
  · rw [hB]
    exact ⟨0, by decide, rfl, iR⟩
  · rcases (by omega : i = 0 ∨ i = 1 ∨ i = 2) with e | e | e <;> subst e <;> rw [z _ _ (by decide), z _ _ (by decide)]
theorem law_1 {xs : Nat → Int32} {L : Nat} (hL : L < 3600) : fL_law_l23 xs L 600 MF 0 = some 1 := law_ok (by omega) 600 0 LA0 MF (Nat.zero_le _) (by omega) rel0
