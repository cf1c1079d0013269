/-! LAND: the end of the reference's -/
theorem l415_l : ∀ d i fuel (M : Mem), i + d = 31 → d < fuel → ∃ N, fX13_land_l415 fuel M (nI i) = some (0, sI (sI (sI N 103 64 0) 103 69 0) 103 74 0) ∧ (∀ j, i ≤ j → j < 31 → gI N 133 j = gI M 129 j) ∧ (∀ j, j < i → gI N 133 j = gI M 133 j) ∧ (∀ a j, a ≠ 133 → gI N a j = gI M a j) ∧ N.2 = M.2 := by
  intro d
  induction d with
  | zero =>
    intro i fuel M h1 h2
    obtain ⟨fuel, rfl⟩ : ∃ f, fuel = f + 1 := ⟨fuel - 1, by omega⟩
    refine ⟨M, ?_, fun j _ _ => by omega, fun j _ => rfl, fun a j _ => rfl, rfl⟩
    rw [fX13_land_l415, if_neg (by rw [show (31 : Int32) = nI 31 from rfl, lt_nI (by omega) (by omega)]; omega), pu_s, pu_s, pu_s]
  | succ d ih =>
    intro i fuel M h1 h2
    obtain ⟨fuel, rfl⟩ : ∃ f, fuel = f + 1 := ⟨fuel - 1, by omega⟩
    obtain ⟨N, y1, y2, y3, y4, y5⟩ := ih (i + 1) fuel (sI M 133 i (gI M 129 i)) (by omega) (by omega)
    refine ⟨N, ?_, fun j z1 z2 => ?_, fun j z => ?_, fun a j z => ?_, y5⟩
    · rw [fX13_land_l415, if_pos (by rw [show (31 : Int32) = nI 31 from rfl, lt_nI (by omega) (by omega)]; omega), ldI_nI (by omega) (by decide), stI_nI (by omega) (by decide), pu_s, nI_1]
      exact y1
    · by_cases e : j = i
      · subst e
        rw [y3 j (by omega), gI_ss]
      · rw [y2 j (by omega) z2, gI_sa (by decide)]
    · rw [y3 j (by omega), gI_sj (by omega)]
    · rw [y4 a j z, gI_sa z]
theorem endM {R : Mem} (h22 : gI R 103 22 = 0) : ∃ M2, fX13_land_b191 R = some (0, M2) ∧ (gI M2 103 1 = gI R 103 33 ∧ gI M2 103 2 = gI R 103 34 ∧ gI M2 103 3 = gI R 103 35 ∧ gI M2 103 4 = gI R 103 36 ∧ gI M2 103 5 = gI R 103 37 ∧ gI M2 103 6 = gI R 103 38 ∧ gI M2 103 7 = gI R 103 39) ∧ (gI M2 103 64 = 0 ∧ gI M2 103 69 = 0 ∧ gI M2 103 74 = 0) ∧
    ((∀ k, k < 7 → gI M2 104 k = gI R 118 k) ∧ (∀ k, k < 7 → gI M2 105 k = gI R 119 k) ∧ (∀ k, k < 7 → gI M2 106 k = gI R 120 k) ∧ (∀ k, k < 7 → gI M2 107 k = gI R 121 k) ∧ (∀ k, k < 2 → gI M2 108 k = gI R 122 k) ∧ (∀ k, k < 10 → gI M2 109 k = gI R 123 k) ∧ (∀ k, k < 6 → gI M2 110 k = gI R 124 k) ∧ (∀ k, k < 7 → gI M2 111 k = gI R 125 k) ∧ (∀ k, k < 7 → gI M2 112 k = gI R 126 k) ∧ (∀ k, k < 7 → gI M2 113 k = gI R 127 k) ∧ (∀ k, k < 7 → gI M2 114 k = gI R 128 k) ∧ (∀ k, k < 1400 → gI M2 115 k = gI R 130 k)) ∧ (∀ j, j < 31 → gI M2 133 j = gI R 129 j) ∧ (∀ a j, (a = 103 → j = 0 ∨ (7 < j ∧ j ≠ 64 ∧ j ≠ 69 ∧ j ≠ 74)) → (a < 104 ∨ 115 < a) → a ≠ 133 → gI M2 a j = gI R a j) ∧ M2.2 = R.2 := by
  generalize e0 : sI (sI (sI (sI (sI (sI (sI R 103 1 (gI R 103 33)) 103 2 (gI R 103 34)) 103 3 (gI R 103 35)) 103 4 (gI R 103 36)) 103 5 (gI R 103 37)) 103 6 (gI R 103 38)) 103 7 (gI R 103 39) = M0
  obtain ⟨M1, c1, v1, g1, s1⟩ := copies_ok (M := M0) (a := 118) (b := 104) (N := 7) (by decide) (by decide) (by decide) (by decide) (by decide) (by decide)
  obtain ⟨M2, c2, v2, g2, s2⟩ := copies_ok (M := M1) (a := 119) (b := 105) (N := 7) (by decide) (by decide) (by decide) (by decide) (by decide) (by decide)
  obtain ⟨M3, c3, v3, g3, s3⟩ := copies_ok (M := M2) (a := 120) (b := 106) (N := 7) (by decide) (by decide) (by decide) (by decide) (by decide) (by decide)
  obtain ⟨M4, c4, v4, g4, s4⟩ := copies_ok (M := M3) (a := 121) (b := 107) (N := 7) (by decide) (by decide) (by decide) (by decide) (by decide) (by decide)
  obtain ⟨M5, c5, v5, g5, s5⟩ := copies_ok (M := M4) (a := 122) (b := 108) (N := 2) (by decide) (by decide) (by decide) (by decide) (by decide) (by decide)
  obtain ⟨M6, c6, v6, g6, s6⟩ := copies_ok (M := M5) (a := 123) (b := 109) (N := 10) (by decide) (by decide) (by decide) (by decide) (by decide) (by decide)
  obtain ⟨M7, c7, v7, g7, s7⟩ := copies_ok (M := M6) (a := 124) (b := 110) (N := 6) (by decide) (by decide) (by decide) (by decide) (by decide) (by decide)
  obtain ⟨M8, c8, v8, g8, s8⟩ := copies_ok (M := M7) (a := 125) (b := 111) (N := 7) (by decide) (by decide) (by decide) (by decide) (by decide) (by decide)
  obtain ⟨M9, c9, v9, g9, s9⟩ := copies_ok (M := M8) (a := 126) (b := 112) (N := 7) (by decide) (by decide) (by decide) (by decide) (by decide) (by decide)
  obtain ⟨M10, c10, v10, g10, s10⟩ := copies_ok (M := M9) (a := 127) (b := 113) (N := 7) (by decide) (by decide) (by decide) (by decide) (by decide) (by decide)
  obtain ⟨M11, c11, v11, g11, s11⟩ := copies_ok (M := M10) (a := 128) (b := 114) (N := 7) (by decide) (by decide) (by decide) (by decide) (by decide) (by decide)
  obtain ⟨M12, c12, v12, g12, s12⟩ := copies_ok (M := M11) (a := 130) (b := 115) (N := 1400) (by decide) (by decide) (by decide) (by decide) (by decide) (by decide)
  obtain ⟨N, y1, y2, -, y4, y5⟩ := l415_l 31 0 FU M12 rfl (by decide)
  have f0 : ∀ a j, (a = 103 → j = 0 ∨ 7 < j) → gI M0 a j = gI R a j := fun a j z => by
    rw [← e0]
    repeat rw [gI_sI, if_neg (fun y => by have := z y.1; omega)]
  have gM : ∀ a j, (a < 104 ∨ 115 < a) → gI M12 a j = gI M0 a j := fun a j z => by
    rw [g12 a j (by omega), g11 a j (by omega), g10 a j (by omega), g9 a j (by omega), g8 a j (by omega), g7 a j (by omega), g6 a j (by omega), g5 a j (by omega), g4 a j (by omega), g3 a j (by omega), g2 a j (by omega), g1 a j (by omega)]
  have nL : ∀ a j, (a = 103 → j ≠ 64 ∧ j ≠ 69 ∧ j ≠ 74) → gI (sI (sI (sI N 103 64 0) 103 69 0) 103 74 0) a j = gI N a j := fun a j z => by
    rw [gI_sI, if_neg (fun y => (z y.1).2.2 y.2), gI_sI, if_neg (fun y => (z y.1).2.1 y.2), gI_sI, if_neg (fun y => (z y.1).1 y.2)]
  refine ⟨sI (sI (sI N 103 64 0) 103 69 0) 103 74 0, ?_, ⟨?_, ?_, ?_, ?_, ?_, ?_, ?_⟩, ⟨?_, ?_, ?_⟩, ⟨fun k hk => ?_, fun k hk => ?_, fun k hk => ?_, fun k hk => ?_, fun k hk => ?_, fun k hk => ?_, fun k hk => ?_, fun k hk => ?_, fun k hk => ?_, fun k hk => ?_, fun k hk => ?_, fun k hk => ?_⟩, fun j hj => ?_, fun a j z1 z2 z3 => ?_, ?_⟩
  · unfold fX13_land_b191
    rw [good_1 h22, b1_s, if_neg (by decide)]
    simp only [pu_s]
    rw [gI_sj (by decide), gI_sj (by decide), gI_sj (by decide), gI_sj (by decide), gI_sj (by decide), gI_sj (by decide), gI_sj (by decide), gI_sj (by decide), gI_sj (by decide), gI_sj (by decide), gI_sj (by decide), gI_sj (by decide), gI_sj (by decide), gI_sj (by decide), gI_sj (by decide), gI_sj (by decide), gI_sj (by decide), gI_sj (by decide), gI_sj (by decide), gI_sj (by decide), gI_sj (by decide), e0, c1, b1_s, c2, b1_s, c3, b1_s, c4, b1_s, c5, b1_s, c6, b1_s, c7, b1_s, c8, b1_s, c9, b1_s, c10, b1_s, c11, b1_s, c12, b1_s]
    exact y1
  · rw [nL _ _ (fun _ => by decide), y4 _ _ (by decide), gM _ _ (by decide), ← e0]
    simp [gI_sI]
  · rw [nL _ _ (fun _ => by decide), y4 _ _ (by decide), gM _ _ (by decide), ← e0]
    simp [gI_sI]
  · rw [nL _ _ (fun _ => by decide), y4 _ _ (by decide), gM _ _ (by decide), ← e0]
    simp [gI_sI]
  · rw [nL _ _ (fun _ => by decide), y4 _ _ (by decide), gM _ _ (by decide), ← e0]
    simp [gI_sI]
  · rw [nL _ _ (fun _ => by decide), y4 _ _ (by decide), gM _ _ (by decide), ← e0]
    simp [gI_sI]
  · rw [nL _ _ (fun _ => by decide), y4 _ _ (by decide), gM _ _ (by decide), ← e0]
    simp [gI_sI]
  · rw [nL _ _ (fun _ => by decide), y4 _ _ (by decide), gM _ _ (by decide), ← e0]
    simp [gI_sI]
  · simp [gI_sI]
  · simp [gI_sI]
  · simp [gI_sI]
  · rw [nL _ _ (fun y => absurd y (by decide)), y4 _ _ (by decide), g12 _ _ (by decide), g11 _ _ (by decide), g10 _ _ (by decide), g9 _ _ (by decide), g8 _ _ (by decide), g7 _ _ (by decide), g6 _ _ (by decide), g5 _ _ (by decide), g4 _ _ (by decide), g3 _ _ (by decide), g2 _ _ (by decide), v1 k hk]
    exact f0 _ _ (fun y => absurd y (by decide))
  · rw [nL _ _ (fun y => absurd y (by decide)), y4 _ _ (by decide), g12 _ _ (by decide), g11 _ _ (by decide), g10 _ _ (by decide), g9 _ _ (by decide), g8 _ _ (by decide), g7 _ _ (by decide), g6 _ _ (by decide), g5 _ _ (by decide), g4 _ _ (by decide), g3 _ _ (by decide), v2 k hk, g1 _ _ (by decide)]
    exact f0 _ _ (fun y => absurd y (by decide))
  · rw [nL _ _ (fun y => absurd y (by decide)), y4 _ _ (by decide), g12 _ _ (by decide), g11 _ _ (by decide), g10 _ _ (by decide), g9 _ _ (by decide), g8 _ _ (by decide), g7 _ _ (by decide), g6 _ _ (by decide), g5 _ _ (by decide), g4 _ _ (by decide), v3 k hk, g2 _ _ (by decide), g1 _ _ (by decide)]
    exact f0 _ _ (fun y => absurd y (by decide))
  · rw [nL _ _ (fun y => absurd y (by decide)), y4 _ _ (by decide), g12 _ _ (by decide), g11 _ _ (by decide), g10 _ _ (by decide), g9 _ _ (by decide), g8 _ _ (by decide), g7 _ _ (by decide), g6 _ _ (by decide), g5 _ _ (by decide), v4 k hk, g3 _ _ (by decide), g2 _ _ (by decide), g1 _ _ (by decide)]
    exact f0 _ _ (fun y => absurd y (by decide))
  · rw [nL _ _ (fun y => absurd y (by decide)), y4 _ _ (by decide), g12 _ _ (by decide), g11 _ _ (by decide), g10 _ _ (by decide), g9 _ _ (by decide), g8 _ _ (by decide), g7 _ _ (by decide), g6 _ _ (by decide), v5 k hk, g4 _ _ (by decide), g3 _ _ (by decide), g2 _ _ (by decide), g1 _ _ (by decide)]
    exact f0 _ _ (fun y => absurd y (by decide))
  · rw [nL _ _ (fun y => absurd y (by decide)), y4 _ _ (by decide), g12 _ _ (by decide), g11 _ _ (by decide), g10 _ _ (by decide), g9 _ _ (by decide), g8 _ _ (by decide), g7 _ _ (by decide), v6 k hk, g5 _ _ (by decide), g4 _ _ (by decide), g3 _ _ (by decide), g2 _ _ (by decide), g1 _ _ (by decide)]
    exact f0 _ _ (fun y => absurd y (by decide))
  · rw [nL _ _ (fun y => absurd y (by decide)), y4 _ _ (by decide), g12 _ _ (by decide), g11 _ _ (by decide), g10 _ _ (by decide), g9 _ _ (by decide), g8 _ _ (by decide), v7 k hk, g6 _ _ (by decide), g5 _ _ (by decide), g4 _ _ (by decide), g3 _ _ (by decide), g2 _ _ (by decide), g1 _ _ (by decide)]
    exact f0 _ _ (fun y => absurd y (by decide))
  · rw [nL _ _ (fun y => absurd y (by decide)), y4 _ _ (by decide), g12 _ _ (by decide), g11 _ _ (by decide), g10 _ _ (by decide), g9 _ _ (by decide), v8 k hk, g7 _ _ (by decide), g6 _ _ (by decide), g5 _ _ (by decide), g4 _ _ (by decide), g3 _ _ (by decide), g2 _ _ (by decide), g1 _ _ (by decide)]
    exact f0 _ _ (fun y => absurd y (by decide))
  · rw [nL _ _ (fun y => absurd y (by decide)), y4 _ _ (by decide), g12 _ _ (by decide), g11 _ _ (by decide), g10 _ _ (by decide), v9 k hk, g8 _ _ (by decide), g7 _ _ (by decide), g6 _ _ (by decide), g5 _ _ (by decide), g4 _ _ (by decide), g3 _ _ (by decide), g2 _ _ (by decide), g1 _ _ (by decide)]
    exact f0 _ _ (fun y => absurd y (by decide))
  · rw [nL _ _ (fun y => absurd y (by decide)), y4 _ _ (by decide), g12 _ _ (by decide), g11 _ _ (by decide), v10 k hk, g9 _ _ (by decide), g8 _ _ (by decide), g7 _ _ (by decide), g6 _ _ (by decide), g5 _ _ (by decide), g4 _ _ (by decide), g3 _ _ (by decide), g2 _ _ (by decide), g1 _ _ (by decide)]
    exact f0 _ _ (fun y => absurd y (by decide))
  · rw [nL _ _ (fun y => absurd y (by decide)), y4 _ _ (by decide), g12 _ _ (by decide), v11 k hk, g10 _ _ (by decide), g9 _ _ (by decide), g8 _ _ (by decide), g7 _ _ (by decide), g6 _ _ (by decide), g5 _ _ (by decide), g4 _ _ (by decide), g3 _ _ (by decide), g2 _ _ (by decide), g1 _ _ (by decide)]
    exact f0 _ _ (fun y => absurd y (by decide))
  · rw [nL _ _ (fun y => absurd y (by decide)), y4 _ _ (by decide), v12 k hk, g11 _ _ (by decide), g10 _ _ (by decide), g9 _ _ (by decide), g8 _ _ (by decide), g7 _ _ (by decide), g6 _ _ (by decide), g5 _ _ (by decide), g4 _ _ (by decide), g3 _ _ (by decide), g2 _ _ (by decide), g1 _ _ (by decide)]
    exact f0 _ _ (fun y => absurd y (by decide))
  · rw [nL _ _ (fun y => absurd y (by decide)), y2 j (Nat.zero_le _) hj, gM _ _ (by decide)]
    exact f0 _ _ (fun y => absurd y (by decide))
  · rw [nL a j (fun y => by have := z1 y; omega), y4 a j z3, gM a j z2]
    exact f0 a j (fun y => by have := z1 y; omega)
  · show N.2 = R.2
    rw [y5, s12, s11, s10, s9, s8, s7, s6, s5, s4, s3, s2, s1, ← e0]
    rfl
