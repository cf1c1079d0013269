/-! TEXTS: the class's parse from its start -/
theorem M_ext {M N : Mem} (h : N.2 = M.2) (a j : Nat) : gR N a j = gR M a j := by unfold gR; rw [h]
theorem clr_l {x0 : Nat} (hk : kd x0 = 20) (hn : ln x0 ≤ 700) : ∀ d i fuel (M : Mem), i + d = ln x0 → d < fuel → ∃ N, fX3_clearRow_l2 fuel M x0 (nI i) = some N ∧ (∀ j, i ≤ j → j < ln x0 → gI N x0 j = 0) ∧ (∀ j, j < i → gI N x0 j = gI M x0 j) ∧ (∀ a j, a ≠ x0 → gI N a j = gI M a j) ∧ ∀ a j, gR N a j = gR M a j := by
  intro d
  induction d with
  | zero =>
    intro i fuel M h1 h2
    obtain ⟨fuel, rfl⟩ : ∃ f, fuel = f + 1 := ⟨fuel - 1, by omega⟩
    refine ⟨M, ?_, fun j _ _ => by omega, fun j _ => rfl, fun a j _ => rfl, fun a j => rfl⟩
    rw [fX3_clearRow_l2, ck_t hk, show Int32.ofNat (ln x0) = nI (ln x0) from rfl, if_neg (by rw [lt_nI (by omega) (by omega)]; omega)]
  | succ d ih =>
    intro i fuel M h1 h2
    obtain ⟨fuel, rfl⟩ : ∃ f, fuel = f + 1 := ⟨fuel - 1, by omega⟩
    obtain ⟨N, y1, y2, y3, y4, y5⟩ := ih (i + 1) fuel (sI M x0 i 0) (by omega) (by omega)
    refine ⟨N, ?_, fun j z1 z2 => ?_, fun j z => ?_, fun a j z => ?_, fun a j => (y5 a j).trans gR_sI⟩
    · rw [fX3_clearRow_l2, ck_t hk, show Int32.ofNat (ln x0) = nI (ln x0) from rfl, if_pos (by rw [lt_nI (by omega) (by omega)]; omega), stI_nI (by omega) (by omega), pu_s, nI_1]
      exact y1
    · by_cases e : j = i
      · subst e
        rw [y3 j (by omega), gI_ss]
      · exact y2 j (by omega) z2
    · rw [y3 j (by omega), gI_sj (by omega)]
    · rw [y4 a j z, gI_sa z]
theorem clr_ok {x0 n : Nat} (hk : kd x0 = 20) (hl : ln x0 = n) (hn : n ≤ 700) (M : Mem) : ∃ N, fX3_clearRow M x0 = some N ∧ (∀ j, j < n → gI N x0 j = 0) ∧ (∀ a j, a ≠ x0 → gI N a j = gI M a j) ∧ ∀ a j, gR N a j = gR M a j := by
  obtain ⟨N, y1, y2, y3, y4, y5⟩ := clr_l hk (by omega) n 0 FU M (by omega) (by show _ < 100000; omega)
  exact ⟨N, by unfold fX3_clearRow; rw [ck_t hk]; exact y1, fun j h => y2 j (Nat.zero_le _) (by omega), y4, y5⟩
def row0 (j : Nat) : Int32 := if j = 0 then 50 else if j = 1 then 20 else if j = 12 then 1 else 0
def LA0 : LA := (fun _ => 0, fun _ _ => 0, fun _ => [])
def LNS0 : LNS := (LA0, row0, 0)
theorem found_ok (M : Mem) : ∃ N, fX3_found M 21 = some N ∧ rC N 21 = row0 ∧ (∀ a j, a < 21 ∨ 25 < a → gI N a j = gI M a j) ∧ ∀ a j, gR N a j = gR M a j := by
  generalize e0 : sI (sI (sI (sI (sI (sI (sI (sI (sI M 21 0 50) 21 1 20) 21 2 0) 21 3 0) 21 4 0) 21 5 0) 21 6 0) 21 7 0) 21 8 1 = M0
  obtain ⟨M1, p1, p2, p3, p4⟩ := clr_ok (x0 := 22) (n := 2) (by decide) (by decide) (by decide) M0
  obtain ⟨M2, q1, q2, q3, q4⟩ := clr_ok (x0 := 23) (n := 2) (by decide) (by decide) (by decide) M1
  obtain ⟨M3, r1, r2, r3, r4⟩ := clr_ok (x0 := 24) (n := 12) (by decide) (by decide) (by decide) M2
  obtain ⟨M4, s1, s2, s3, s4⟩ := clr_ok (x0 := 25) (n := 6) (by decide) (by decide) (by decide) M3
  have g0 : ∀ a j, a ≠ 22 → a ≠ 23 → a ≠ 24 → a ≠ 25 → gI M4 a j = gI M0 a j := fun a j z1 z2 z3 z4 => by rw [s3 a j z4, r3 a j z3, q3 a j z2, p3 a j z1]
  have g1 : ∀ j, j < 2 → gI M4 22 j = 0 := fun j z => by rw [s3 _ j (by decide), r3 _ j (by decide), q3 _ j (by decide), p2 j z]
  have g2 : ∀ j, j < 2 → gI M4 23 j = 0 := fun j z => by rw [s3 _ j (by decide), r3 _ j (by decide), q2 j z]
  have g3 : ∀ j, j < 12 → gI M4 24 j = 0 := fun j z => by rw [s3 _ j (by decide), r2 j z]
  refine ⟨M4, ?_, ?_, fun a j z => ?_, fun a j => ?_⟩
  · unfold fX3_found
    rw [ck_t (by decide), pu_s, pu_s, pu_s, pu_s, pu_s, pu_s, pu_s, pu_s, pu_s, e0, show (21 + 1 : Nat) = 22 from rfl, p1, b1_s, show (21 + 2 : Nat) = 23 from rfl, q1, b1_s, show (21 + 3 : Nat) = 24 from rfl, r1, b1_s, show (21 + 4 : Nat) = 25 from rfl, s1, b1_s]
  · funext j
    unfold rC
    by_cases hj : j < 31
    · rw [if_pos hj]
      have h21 : ∀ i, i < 9 → gI M4 21 i = if i = 0 then 50 else if i = 1 then 20 else if i = 8 then 1 else 0 := fun i hi => by
        rw [g0 21 i (by decide) (by decide) (by decide) (by decide), ← e0]
        rcases (by omega : i = 0 ∨ i = 1 ∨ i = 2 ∨ i = 3 ∨ i = 4 ∨ i = 5 ∨ i = 6 ∨ i = 7 ∨ i = 8) with e | e | e | e | e | e | e | e | e <;> subst e <;> simp [gI_sI]
      unfold plA plJ row0
      by_cases z1 : j < 6
      · rw [if_pos z1, if_pos z1, h21 j (by omega)]
        by_cases y0 : j = 0
        · rw [if_pos y0, if_pos y0]
        · by_cases y1 : j = 1
          · rw [if_neg y0, if_neg y0, if_pos y1, if_pos y1]
          · rw [if_neg y0, if_neg y0, if_neg y1, if_neg y1, if_neg (by omega), if_neg (by omega)]
      · rw [if_neg z1, if_neg z1, if_neg (show ¬ j = 0 by omega), if_neg (show ¬ j = 1 by omega)]
        by_cases z2 : j < 8
        · rw [if_pos z2, if_pos z2, if_neg (show ¬ j = 12 by omega)]
          exact g2 _ (by omega)
        · rw [if_neg z2, if_neg z2]
          by_cases z3 : j < 10
          · rw [if_pos z3, if_pos z3, show 21 + 0 = 21 from rfl, h21 _ (by omega), if_neg (by omega), if_neg (by omega), if_neg (by omega), if_neg (by omega)]
          · rw [if_neg z3, if_neg z3]
            by_cases z4 : j < 12
            · rw [if_pos z4, if_pos z4, if_neg (show ¬ j = 12 by omega)]
              exact g1 _ (by omega)
            · rw [if_neg z4, if_neg z4]
              by_cases z5 : j < 13
              · rw [if_pos z5, if_pos z5, if_pos (by omega), show 21 + 0 = 21 from rfl, h21 8 (by decide)]
                rfl
              · rw [if_neg z5, if_neg z5, if_neg (show ¬ j = 12 by omega)]
                by_cases z6 : j < 25
                · rw [if_pos z6, if_pos z6]
                  exact g3 _ (by omega)
                · rw [if_neg z6, if_neg z6]
                  exact s2 _ (by omega)
    · rw [if_neg hj]
      unfold row0
      rw [if_neg (by omega), if_neg (by omega), if_neg (by omega)]
  · rw [g0 a j (by omega) (by omega) (by omega) (by omega), ← e0]
    repeat rw [gI_sa (by omega)]
  · rw [s4, r4, q4, p4, ← e0]
    repeat rw [gR_sI]
theorem invS0 : invS LNS0 := by
  refine ⟨⟨Nat.zero_le _, Nat.zero_le _, Nat.zero_le _, Nat.zero_le _, Nat.zero_le _, Nat.zero_le _, Nat.zero_le _, fun d h => absurd h (Nat.not_lt_zero d), fun d h => absurd h (Nat.not_lt_zero d), fun d h => absurd h (Nat.not_lt_zero d), fun d h => absurd h (Nat.not_lt_zero d), fun d h => absurd h (Nat.not_lt_zero d), fun i _ => Or.inl rfl⟩, ⟨⟨50, by decide, rfl⟩, ⟨20, by decide, rfl⟩, ⟨0, by decide, rfl⟩, ⟨0, by decide, rfl⟩, ⟨0, by decide, rfl⟩, ⟨0, by decide, rfl⟩, by unfold inZ; decide, by unfold inZ; decide, ⟨0, by decide, rfl⟩, ⟨0, by decide, rfl⟩, ⟨1, by decide, by decide, rfl⟩, fun b _ i h => absurd h (Nat.not_lt_zero i), fun i hi => ?_, fun j hj => ?_⟩, by decide, ?_, ?_, ?_, ?_, ?_⟩
  · show inZ (row0 (25 + i)) 9
    unfold row0
    rw [if_neg (by omega), if_neg (by omega), if_neg (by omega)]
    unfold inZ
    decide
  · show row0 j = 0
    unfold row0
    rw [if_neg (by omega), if_neg (by omega), if_neg (by omega)]
  all_goals exact ⟨fun y => absurd y (by decide), fun y => absurd y (by first | exact Nat.lt_irrefl 0 | exact fun z => z rfl)⟩
theorem clear_ok {P : Nat} (hp : P = 4 ∨ P = 29) (M : Mem) : ∃ N, fX5_clear M P = some N ∧ (gI N P 0 = 0 ∧ gI N P 6 = 0 ∧ gI N P 8 = 0 ∧ gI N (P + 8) 0 = 0 ∧ gI N (P + 11) 0 = 0 ∧ ∀ b, b < 2 → gI N (P + 5) b = 0) ∧ (gI N (P + 15) 1 = 0 ∧ gI N (P + 15) 2 = 0 ∧ gI N (P + 15) 3 = 0 ∧ gI N (P + 16) 1 = 0 ∧ gI N (P + 16) 2 = 0) ∧ (∀ a j, a < P ∨ P + 16 < a → gI N a j = gI M a j) ∧ ∀ a j, gR N a j = gR M a j := by
  have hk : kd P = 4 ∧ kd (P + 15) = 7 ∧ kd (P + 16) = 7 := by rcases hp with e | e <;> subst e <;> decide
  refine ⟨sI (sI (sI (sI (sI (sI (sI (sI (sI (sI (sI (sI (sI M P 0 0) (P + 5) 0 0) (P + 5) 1 0) P 6 0) P 8 0) (P + 8) 0 0) (P + 11) 0 0) (P + 15) 1 0) (P + 15) 2 0) (P + 15) 3 0) (P + 16) 1 0) (P + 16) 2 0) (P + 16) 3 0, ?_, ⟨?_, ?_, ?_, ?_, ?_, fun b hb => ?_⟩, ⟨?_, ?_, ?_, ?_, ?_⟩, fun a j z => ?_, fun a j => ?_⟩
  · unfold fX5_clear fX8_begin
    rw [ck_t hk.1, pu_s, show (0 : Int32) = nI 0 from rfl, stI_nI (by decide) (by decide), show (1 : Int32) = nI 1 from rfl, stI_nI (by decide) (by decide), pu_s, pu_s, pu_s, pu_s, ck_t hk.2.1, pu_s, pu_s, pu_s, b1_s, ck_t hk.2.2, pu_s, pu_s, pu_s, b1_s]
  · simp [gI_sI]
  · simp [gI_sI]
  · simp [gI_sI]
  · simp [gI_sI]
  · simp [gI_sI]
  · rcases (by omega : b = 0 ∨ b = 1) with e | e <;> subst e <;> simp [gI_sI]
  · simp [gI_sI]
  · simp [gI_sI]
  · simp [gI_sI]
  · simp [gI_sI]
  · simp [gI_sI]
  · repeat rw [gI_sa (by omega)]
  · repeat rw [gR_sI]
theorem parseC {c : Nat → Nat} {L P : Nat} {M : Mem} (hp : P = 4 ∨ P = 29) (hr : gR M 3 1 = P) (ht : tpC c L M) : match landR c L 701 LNS0 0 with
    | .error e => ∃ M', fX6_parse M (nI L) = some (nI e.1, M') ∧ frQ P M M' ∧ gI M' 3 4 = nI e.2
    | .ok S' => ∃ M' q', fX6_parse M (nI L) = some (0, M') ∧ pC c L P M S' q' M' ∧ invS S' := by
  have hL := ht.1
  have hP : HP P M := ⟨hp, hr⟩
  obtain ⟨N1, a1, ⟨b1', b2', b3', b4, b5, b6⟩, ⟨c1, c2, c3, c4, c5⟩, d1, d2⟩ := clear_ok hp M
  obtain ⟨N2, e1, e2, e3, e4⟩ := found_ok N1
  generalize eM : sI (sI (sI (sI N2 3 3 0) 3 5 0) 27 1 (nI L)) 27 2 (nI 0) = N3
  have f1 : ∀ a j, a ≠ 3 → a ≠ 27 → gI N3 a j = gI N2 a j := fun a j z1 z2 => by rw [← eM, gI_sa z2, gI_sa z2, gI_sa z1, gI_sa z1]
  have f2 : ∀ a j, gR N3 a j = gR M a j := fun a j => by rw [← eM, gR_sI, gR_sI, gR_sI, gR_sI, e4, d2]
  have f3 : ∀ a j, a ≠ 3 → a ≠ 27 → (a < 21 ∨ 25 < a) → gI N3 a j = gI N1 a j := fun a j z1 z2 z3 => (f1 a j z1 z2).trans (e3 a j z3)
  have t3 : tpC c L N3 := ⟨hL, fun i hi => ⟨(ht.2 i hi).1, by rw [f3 1 i (by decide) (by decide) (by decide), d1 1 i (by omega)]; exact (ht.2 i hi).2⟩⟩
  obtain ⟨N4, s1, s2, s3⟩ := stepC (q := 0) t3 (Nat.zero_le _) (by rw [← eM, gI_sj (by decide), gI_ss]) (by rw [← eM, gI_ss])
  have f4 : ∀ a j, a ≠ 3 → a ≠ 27 → (a < 21 ∨ 25 < a) → gI N4 a j = gI N1 a j := fun a j z1 z2 z3 => (s3.1 a j z2).trans (f3 a j z1 z2 z3)
  have h0 : pC c L P M LNS0 0 N4 := by
    refine ⟨t3.fr s3, s2, Nat.zero_le _, ⟨⟨?_, ?_, ?_, ?_, ?_, fun b hb => ?_⟩, ⟨fun d h => absurd h (Nat.not_lt_zero d), fun d h => absurd h (Nat.not_lt_zero d), fun d h => absurd h (Nat.not_lt_zero d), fun d h => absurd h (Nat.not_lt_zero d), fun d h => absurd h (Nat.not_lt_zero d)⟩, ⟨0, ?_, ?_, Nat.zero_le _, fun i h => absurd h (Nat.not_lt_zero i)⟩, ⟨0, ?_, ?_, Nat.zero_le _, fun i h => absurd h (Nat.not_lt_zero i)⟩, Or.inl ?_, fun _ x hx => by cases hx⟩, ?_, ?_, ⟨fun a j z1 z2 z3 => ?_, fun a j z1 z2 => (s3.2 a j z1).trans (f2 a j), fun w => by rw [s3.2 3 7 (by decide), f2]; exact w⟩⟩
    · rw [f4 _ _ (by omega) (by omega) (by omega)]; exact b1'
    · rw [f4 _ _ (by omega) (by omega) (by omega)]; exact b2'
    · rw [f4 _ _ (by omega) (by omega) (by omega)]; exact b3'
    · rw [f4 _ _ (by omega) (by omega) (by omega)]; exact b4
    · rw [f4 _ _ (by omega) (by omega) (by omega)]; exact b5
    · rw [f4 _ _ (by omega) (by omega) (by omega)]; exact b6 b hb
    · rw [f4 _ _ (by omega) (by omega) (by omega)]; exact c1
    · rw [f4 _ _ (by omega) (by omega) (by omega)]; exact c2
    · rw [f4 _ _ (by omega) (by omega) (by omega)]; exact c4
    · rw [f4 _ _ (by omega) (by omega) (by omega)]; exact c5
    · rw [f4 _ _ (by omega) (by omega) (by omega)]; exact c3
    · show _ = row0
      rw [← e2]
      exact rC_21 fun a j _ _ => (s3.1 a j (by omega)).trans (f1 a j (by omega) (by omega))
    · rw [s3.1 3 5 (by decide), ← eM, gI_sa (by decide), gI_sa (by decide), gI_ss]; rfl
    · rw [f4 a j z1 (by omega) (by omega), d1 a j z3]
  have hpar : fX6_parse M (nI L) = fX6_parse_l34 FU N4 0 := by
    unfold fX6_parse fX10_open
    rw [pu_s, hr, ck_t hP.k.1, a1, b1_s, e1, b1_s, pu_s, pu_s, show (700 : Int32) = nI 700 from rfl, if_neg (by rw [lt_nI (by omega) (by omega)]; omega), pu_s, pu_s, pu_s, show (0 : Int32) = nI 0 from rfl]
    rw [show sI (sI (sI (sI N2 3 3 (nI 0)) 3 5 (nI 0)) 27 1 (nI L)) 27 2 (nI 0) = N3 from eM, s1, b1_s, b1_s]
  rw [hpar]
  exact prsC_l hP 701 0 LNS0 0 N4 FU rfl (by decide) invS0 h0
