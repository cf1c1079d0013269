/-! LAND: the reference's, up to its end -/
theorem st129p {β : Type} {M : Mem} {v : Int32} {K : Mem → Option β} : stI M 129 31 0 v K = K (sI M 129 0 v) ∧ stI M 129 31 1 v K = K (sI M 129 1 v) ∧ stI M 129 31 12 v K = K (sI M 129 12 v) :=
  ⟨stI_nI (i := 0) (by decide) (by decide), stI_nI (i := 1) (by decide) (by decide), stI_nI (i := 12) (by decide) (by decide)⟩
theorem l118_l : ∀ d i fuel (M : Mem), i + d = 31 → d < fuel → ∃ N, fX13_land_l118 fuel M (nI i) = (stI N 129 31 0 50 fun Mq20 => stI Mq20 129 31 1 20 fun Mq21 => stI Mq21 129 31 12 1 fun Mq22 => pu (sI Mq22 103 40 0) fun Mq23 => b1 (fX13_goes Mq23) fun Mq24 => fX13_land_l170 FU Mq24) ∧ (∀ j, i ≤ j → j < 31 → gI N 129 j = 0) ∧ (∀ j, j < i → gI N 129 j = gI M 129 j) ∧ (∀ a j, a ≠ 129 → gI N a j = gI M a j) ∧ N.2 = M.2 := by
  intro d
  induction d with
  | zero =>
    intro i fuel M h1 h2
    obtain ⟨fuel, rfl⟩ : ∃ f, fuel = f + 1 := ⟨fuel - 1, by omega⟩
    refine ⟨M, ?_, fun j _ _ => by omega, fun j _ => rfl, fun a j _ => rfl, rfl⟩
    rw [fX13_land_l118, if_neg (by rw [show (31 : Int32) = nI 31 from rfl, lt_nI (by omega) (by omega)]; omega)]
  | succ d ih =>
    intro i fuel M h1 h2
    obtain ⟨fuel, rfl⟩ : ∃ f, fuel = f + 1 := ⟨fuel - 1, by omega⟩
    obtain ⟨N, y1, y2, y3, y4, y5⟩ := ih (i + 1) fuel (sI M 129 i 0) (by omega) (by omega)
    refine ⟨N, ?_, fun j z1 z2 => ?_, fun j z => ?_, fun a j z => ?_, y5⟩
    · rw [fX13_land_l118, if_pos (by rw [show (31 : Int32) = nI 31 from rfl, lt_nI (by omega) (by omega)]; omega), stI_nI (by omega) (by decide), pu_s, nI_1]
      exact y1
    · by_cases e : j = i
      · subst e
        rw [y3 j (by omega), gI_ss]
      · exact y2 j (by omega) z2
    · rw [y3 j (by omega), gI_sj (by omega)]
    · rw [y4 a j z, gI_sa z]
def frLd (N R : Mem) : Prop := (∀ a j, (a = 103 → j ≠ 0 ∧ j ≠ 21 ∧ (j < 22 ∨ 46 < j)) → (a < 118 ∨ 132 < a) → gI R a j = gI N a j) ∧ R.2.2 = N.2.2 ∧ gI R 103 0 = 0 ∧ gI R 103 21 = 0
theorem prsM {c : Nat → Nat} {L n : Nat} {N : Mem} (hn : n ≤ 700) (hL : L ≤ n) (h21 : gI N 103 21 = nI n) (hc : ∀ i, i < L → c i < 256 ∧ gI N 116 i = nI (c i)) : match landR c L 701 LNS0 0 with
    | .error e => ∃ R, fX13_land N (nI L) = fX13_land_b191 R ∧ frLd N R ∧ gI R 103 22 = nI e.1 ∧ gI R 103 23 = nI e.2 ∧ 1 ≤ e.1 ∧ e.1 < 10
    | .ok S' => ∃ R M0 q', fX13_land N (nI L) = fX13_land_b191 R ∧ frLd N R ∧ pM c L M0 S' q' R ∧ invS S' ∧ gI R 103 23 = -1 := by
  generalize e2 : sI (sI (sI (sI (sI (sI (sI (sI (sI (sI (sI (sI (sI (sI (sI (sI (sI N 103 0 0) 103 21 0) 103 23 (-1)) 103 22 0) 103 25 (nI L)) 103 26 0) 103 33 0) 103 34 0) 103 35 0) 103 36 0) 103 37 0) 103 38 (-1)) 103 39 (-1)) 122 0 0) 122 1 0) 103 45 0) 103 46 0 = N2
  obtain ⟨N3, y1, y2, -, y4, y5⟩ := l118_l 31 0 FU N2 rfl (by decide)
  generalize e4 : sI (sI (sI (sI N3 129 0 50) 129 1 20) 129 12 1) 103 40 0 = N4
  have a2 : ∀ a j, a ≠ 103 → a ≠ 122 → gI N2 a j = gI N a j := fun a j z1 z2 => by
    rw [← e2]
    repeat rw [gI_sa (by omega)]
  have f2 : ∀ j, (j < 21 ∨ 46 < j) → j ≠ 0 → gI N2 103 j = gI N 103 j := fun j z1 z2 => by
    rw [← e2]
    repeat rw [gI_sI, if_neg (by omega)]
  have v2 : gI N2 103 0 = 0 ∧ gI N2 103 21 = 0 ∧ gI N2 103 23 = -1 ∧ gI N2 103 22 = 0 ∧ gI N2 103 25 = nI L ∧ gI N2 103 26 = 0 := by
    rw [← e2]
    refine ⟨?_, ?_, ?_, ?_, ?_, ?_⟩ <;> simp [gI_sI]
  have w2 : gI N2 103 33 = 0 ∧ gI N2 103 34 = 0 ∧ gI N2 103 35 = 0 ∧ gI N2 103 36 = 0 ∧ gI N2 103 37 = 0 ∧ gI N2 103 38 = -1 ∧ gI N2 103 39 = -1 ∧ gI N2 103 45 = 0 ∧ gI N2 103 46 = 0 := by
    rw [← e2]
    refine ⟨?_, ?_, ?_, ?_, ?_, ?_, ?_, ?_, ?_⟩ <;> simp [gI_sI]
  have x2 : ∀ b, b < 2 → gI N2 122 b = 0 := fun b hb => by
    rw [← e2]
    rcases (by omega : b = 0 ∨ b = 1) with e | e <;> subst e <;> simp [gI_sI]
  have s2 : N2.2 = N.2 := by rw [← e2]; rfl
  have g4 : ∀ a j, a ≠ 129 → (a = 103 → j ≠ 40) → gI N4 a j = gI N2 a j := fun a j z1 z2 => by
    rw [← e4, gI_sI, if_neg (fun y => z2 y.1 y.2), gI_sa z1, gI_sa z1, gI_sa z1, y4 a j z1]
  have s4 : N4.2 = N.2 := by rw [← e4, ← s2, ← y5]; rfl
  have r4 : rA N4 129 0 = row0 := by
    rw [← e4, rA_mv (M := sI (sI (sI N3 129 0 50) 129 1 20) 129 12 1) (fun j => gI_sa (by decide)), rA_up (by decide), rA_up (by decide), rA_up (by decide)]
    funext j
    rw [upd_a, upd_a, upd_a]
    unfold row0 rA
    by_cases z0 : j = 0
    · rw [if_neg (show ¬ j = 12 by omega), if_neg (show ¬ j = 1 by omega), if_pos z0, if_pos z0]
    · by_cases z1 : j = 1
      · rw [if_neg (show ¬ j = 12 by omega), if_pos z1, if_neg z0, if_pos z1]
      · by_cases z2 : j = 12
        · rw [if_pos z2, if_neg z0, if_neg z1, if_pos z2]
        · rw [if_neg z2, if_neg z1, if_neg z0, if_neg z0, if_neg z1, if_neg z2]
          by_cases hj : j < 31
          · rw [if_pos hj, Nat.zero_add]
            exact y2 j (Nat.zero_le _) hj
          · rw [if_neg hj]
  have t4 : tpM c L N4 := ⟨by omega, by rw [g4 103 25 (by decide) (fun _ => by decide)]; exact v2.2.2.2.2.1, fun i hi => ⟨(hc i hi).1, by rw [g4 116 i (by decide) (fun y => absurd y (by decide)), a2 116 i (by decide) (by decide)]; exact (hc i hi).2⟩⟩
  obtain ⟨N5, p1, p2, p3⟩ := goesM (q := 0) t4 (Nat.zero_le _) ((g4 103 26 (by decide) (fun _ => by decide)).trans v2.2.2.2.2.2)
  have g5 : ∀ a j, a ≠ 129 → (a = 103 → j ≠ 40 ∧ (j < 26 ∨ 31 < j)) → gI N5 a j = gI N2 a j := fun a j z1 z2 => (p3.1 a j (fun e => (z2 e).2)).trans (g4 a j z1 (fun e => (z2 e).1))
  have h5 : pM c L N4 LNS0 0 N5 := by
    refine ⟨t4.fr p3, p2, Nat.zero_le _, ?_, ⟨⟨?_, ?_, ?_, ?_, ?_, fun b hb => ?_⟩, ⟨fun d h => absurd h (Nat.not_lt_zero d), fun d h => absurd h (Nat.not_lt_zero d), fun d h => absurd h (Nat.not_lt_zero d), fun d h => absurd h (Nat.not_lt_zero d), fun d h => absurd h (Nat.not_lt_zero d)⟩, 0, ?_, Nat.zero_le _, ⟨fun _ => ?_, fun z => absurd rfl z⟩, ⟨fun _ => ?_, fun z => absurd rfl z⟩⟩, ?_, ⟨?_, ?_⟩, p3.R⟩
    · exact (g5 _ _ (by decide) (fun _ => by decide)).trans v2.2.2.2.1
    · exact (g5 _ _ (by decide) (fun _ => by decide)).trans w2.1
    · exact (g5 _ _ (by decide) (fun _ => by decide)).trans w2.2.1
    · exact (g5 _ _ (by decide) (fun _ => by decide)).trans w2.2.2.1
    · exact (g5 _ _ (by decide) (fun _ => by decide)).trans w2.2.2.2.1
    · exact (g5 _ _ (by decide) (fun _ => by decide)).trans w2.2.2.2.2.1
    · exact (g5 _ _ (by decide) (fun y => absurd y (by decide))).trans (x2 b hb)
    · rw [p3.1 103 40 (fun _ => by decide), ← e4, gI_ss]; rfl
    · exact (g5 _ _ (by decide) (fun _ => by decide)).trans w2.2.2.2.2.2.1
    · exact (g5 _ _ (by decide) (fun _ => by decide)).trans w2.2.2.2.2.2.2.1
    · show _ = row0
      rw [← r4]
      exact rA_mv fun j => p3.1 _ _ (fun y => absurd y (by decide))
    · exact (g5 _ _ (by decide) (fun _ => by decide)).trans w2.2.2.2.2.2.2.2.1
    · exact (g5 _ _ (by decide) (fun _ => by decide)).trans w2.2.2.2.2.2.2.2.2
  have hrun : fX13_land N (nI L) = fX13_land_l170 FU N5 := by
    unfold fX13_land
    rw [pu_s, if_neg (nI_pos (by omega)), pu_s, gI_sj (by decide), h21, if_neg (by rw [lt_nI (by omega) (by omega)]; omega)]
    unfold fX13_land_b23
    rw [right_eq gI_ss _ _ (by decide), if_neg (by decide), b2_s, if_neg (by decide)]
    simp only [pu_s]
    rw [show (stI (sI (sI (sI (sI (sI (sI (sI (sI (sI (sI (sI (sI (sI N 103 0 0) 103 21 0) 103 23 (-1)) 103 22 0) 103 25 (nI L)) 103 26 0) 103 33 0) 103 34 0) 103 35 0) 103 36 0) 103 37 0) 103 38 (-1)) 103 39 (-1)) 122 2 0 0 fun Mq16 => stI Mq16 122 2 1 0 fun Mq17 => fX13_land_l118 FU (sI (sI Mq17 103 45 0) 103 46 0) 0) = fX13_land_l118 FU N2 0 from by
      rw [show (0 : Int32) = nI 0 from rfl, stI_nI (by decide) (by decide), show (1 : Int32) = nI 1 from rfl, stI_nI (by decide) (by decide)]
      exact congrArg (fun z => fX13_land_l118 FU z (nI 0)) e2]
    rw [show fX13_land_l118 FU N2 0 = _ from y1, st129p.1, st129p.2.1, st129p.2.2, pu_s, e4, p1, b1_s]
  have lift : ∀ R, frR N4 R → frLd N R := fun R f => ⟨fun a j z1 z2 => by
    rw [f.1 a j (fun e => (z1 e).2.2) z2, g4 a j (by omega) (fun e => by have := z1 e; omega)]
    by_cases e : a = 103
    · subst e
      have := z1 rfl
      exact f2 j (by omega) (by omega)
    · exact a2 a j e (by omega), by rw [f.2.1, s4], by rw [f.1 103 0 (fun _ => by decide) (by decide), g4 103 0 (by decide) (fun _ => by decide)]; exact v2.1, by rw [f.1 103 21 (fun _ => by decide) (by decide), g4 103 21 (by decide) (fun _ => by decide)]; exact v2.2.1⟩
  have hm := prsM_l 701 LNS0 0 N5 FU (by omega) (by decide) invS0 h5
  rw [hrun]
  cases hr : landR c L 701 LNS0 0 with
  | error e =>
    rw [hr] at hm
    obtain ⟨R, z1, z2, z3, z4, z5, z6⟩ := hm
    exact ⟨R, z1, lift R z6, z2, z3, z4, z5⟩
  | ok S' =>
    rw [hr] at hm
    obtain ⟨R, q', z1, z2, z3⟩ := hm
    refine ⟨R, N4, q', z1, lift R z2.2.2.2.2.2.2.2, z2, z3, ?_⟩
    rw [(z2.2.2.2.2.2.2.2.2.2 z2.2.2.2.1).2, g4 103 23 (by decide) (fun _ => by decide)]
    exact v2.2.2.1
