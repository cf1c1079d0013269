/-! ACTS kept and taken back -/
def pn (n : Nat) : Nat := if n < 40 then n + 1 else 40
def pr (n : Nat) (ρ : Nat → Nat → Int32) (r : Nat → Int32) (i : Nat) : Nat → Int32 := if n < 40 then (if i = n then r else ρ i) else (if i = 39 then r else ρ (i + 1))
theorem keepC_ok {M : Mem} {n : Nat} (h : gI M 91 0 = nI n) (hn : n ≤ 40) : ∃ M1, fX1_keep M 91 81 = some M1 ∧ gI M1 91 0 = nI (pn n) ∧ (∀ i, i < pn n → rW M1 92 (31 * i) = pr n (fun i => rW M 92 (31 * i)) (rC M 81) i) ∧ (∀ b j, b ≠ 92 → (b = 91 → j ≠ 0) → gI M1 b j = gI M b j) ∧ M1.2 = M.2 := by
  have h0 : kd 91 = 0 := by decide
  have h1 : kd 81 = 2 := by decide
  -- writing at m
  have wr9 : ∀ (M6 : Mem) (m : Nat), gI M6 91 0 = nI m → m < 40 → ∃ M1, fX1_keep_b32 M6 91 81 = some M1 ∧ gI M1 91 0 = nI (m + 1) ∧ rW M1 92 (31 * m) = rC M6 81 ∧ (∀ i, i < m → rW M1 92 (31 * i) = rW M6 92 (31 * i)) ∧ (∀ b j, b ≠ 92 → (b = 91 → j ≠ 0) → gI M1 b j = gI M6 b j) ∧ M1.2 = M6.2 := by
    intro M6 m hm hm40
    obtain ⟨M7, w1, w2, w3, w4⟩ := write_ok (M := M6) (k := 81) (a := 92) (p := m * 31) (n := 1240) h1 (by decide) (by decide) (by omega) (by decide) (by decide)
    refine ⟨sI M7 91 0 (nI (m + 1)), ?_, gI_ss, ?_, fun i hi => ?_, fun b j hb hj => ?_, w4⟩
    · unfold fX1_keep_b32
      rw [ck_t h0, ck_t h1, pu_s, hm, show (31 : Int32) = nI 31 from rfl, pk_mul, w1, b1_s, pu_s, w3 91 0 (fun q => absurd q (by decide)), hm, nI_1]
      rfl
    · rw [rW_mv (M := M7) (fun j => gI_sa (by decide)), Nat.mul_comm]
      exact w2
    · rw [rW_mv (M := M7) (fun j => gI_sa (by decide))]
      funext j
      unfold rW
      by_cases hj : j < 31
      · have := wr_lt j hj
        rw [if_pos hj, if_pos hj, w3 92 _ (fun _ => by omega)]
      · rw [if_neg hj, if_neg hj]
    · rw [gI_sI, if_neg (by rintro ⟨q1, q2⟩; exact hj q1 q2)]
      exact w3 b j (fun q => absurd q hb)
  unfold fX1_keep
  rw [ck_t h0, ck_t h1, pu_s, h]
  by_cases h40 : n < 40
  · rw [if_pos (by rw [show (40 : Int32) = nI 40 from rfl, lt_nI (by omega) (by decide)]; exact h40)]
    obtain ⟨M1, q1, q2, q3, q4, q5, q6⟩ := wr9 M n h h40
    unfold pn pr
    rw [if_pos h40]
    refine ⟨M1, q1, q2, fun i hi => ?_, q5, q6⟩
    rw [if_pos h40]
    by_cases hi2 : i = n
    · rw [if_pos hi2, hi2, q3]
    · rw [if_neg hi2, q4 i (by omega)]
  · rw [if_neg (by rw [show (40 : Int32) = nI 40 from rfl, lt_nI (by omega) (by decide)]; exact h40), show (31 : Int32) = nI 31 from rfl, show (0 : Int32) = nI 0 from rfl, show (1209 : Int32) = nI 1209 from rfl, cp_nI (by decide) (by decide) (by decide) (by decide), pu_s]
    generalize hM6 : aI M (91 + 1) (va_cpy (gI M (91 + 1)) (gI M (91 + 1)) 31 0 1209) = M6
    have g6 : ∀ b j, b ≠ 92 → gI M6 b j = gI M b j := fun b j hb => by rw [← hM6, gI_ai, if_neg hb]
    have s6 : ∀ j, j < 1209 → gI M6 92 j = gI M 92 (31 + j) := fun j hj => by
      rw [← hM6, gI_ai, if_pos rfl]
      unfold va_cpy
      rw [if_pos (by omega)]
      rfl
    obtain ⟨M1, q1, q2, q3, q4, q5, q6⟩ := wr9 (sI M6 91 0 39) 39 gI_ss (by decide)
    refine ⟨M1, q1, ?_, fun i hi => ?_, fun b j hb hj => ?_, by rw [q6, ← hM6]; rfl⟩
    · unfold pn; rw [if_neg h40]; exact q2
    · unfold pn at hi
      rw [if_neg h40] at hi
      unfold pr
      rw [if_neg h40]
      by_cases hi2 : i = 39
      · rw [if_pos hi2, hi2, q3]
        funext j
        unfold rC
        by_cases hj : j < 31
        · have := pl_4 j hj
          rw [if_pos hj, if_pos hj, gI_sa (by omega), g6 _ _ (by omega)]
        · rw [if_neg hj, if_neg hj]
      · rw [if_neg hi2, q4 i (by omega)]
        funext j
        unfold rW
        dsimp only
        by_cases hj : j < 31
        · have := wr_lt j hj
          rw [if_pos hj, if_pos hj, gI_sa (by decide), s6 _ (by omega), show 31 + (31 * i + wr j) = 31 * (i + 1) + wr j by omega]
        · rw [if_neg hj, if_neg hj]
    · rw [q5 b j hb hj, gI_sI, if_neg (by rintro ⟨x1, x2⟩; exact hj x1 x2), g6 b j hb]
theorem keepsM_l {M0 : Mem} {n : Nat} (h : gI M0 103 64 = nI n) (hn : n < 40) : ∀ (d i fuel : Nat) (M : Mem), (∀ b j, (b = 134 → j < 31 * n ∨ 31 * n + i ≤ j) → gI M b j = gI M0 b j) → M.2 = M0.2 → (∀ j, j < i → gI M 134 (31 * n + j) = gI M0 133 j) → i + d = 31 → d < fuel →
    ∃ M1, fX13_keeps_l52 fuel M (nI i) = some M1 ∧ gI M1 103 64 = nI (n + 1) ∧ rA M1 134 (31 * n) = rB M0 0 ∧ (∀ b j, (b = 134 → j < 31 * n ∨ 31 * n + 31 ≤ j) → (b = 103 → j ≠ 64) → gI M1 b j = gI M0 b j) ∧ M1.2 = M0.2 := by
  intro d
  induction d with
  | zero =>
    intro i fuel M hf0 h2 hs hi hf
    obtain ⟨m, rfl⟩ : ∃ m, fuel = m + 1 := ⟨fuel - 1, by omega⟩
    have hi31 : i = 31 := by omega
    subst hi31
    rw [fX13_keeps_l52, show (31 : Int32) = nI 31 from rfl, if_neg (by rw [lt_nI (by decide) (by decide)]; omega), pu_s, hf0 103 64 (fun q => absurd q (by decide)), h, nI_1, pu_s]
    refine ⟨_, rfl, gI_ss, ?_, fun b j hb hj => ?_, h2⟩
    · rw [rA_mv (M := M) (fun j => gI_sa (by decide))]
      funext j
      unfold rA rB
      by_cases hj : j < 31
      · rw [if_pos hj, if_pos hj, hs j hj, Nat.zero_add]
      · rw [if_neg hj, if_neg hj]
    · rw [gI_sI, if_neg (by rintro ⟨x1, x2⟩; exact hj x1 x2)]
      exact hf0 b j hb
  | succ d ih =>
    intro i fuel M hf0 h2 hs hi hf
    obtain ⟨m, rfl⟩ : ∃ m, fuel = m + 1 := ⟨fuel - 1, by omega⟩
    rw [fX13_keeps_l52, show (31 : Int32) = nI 31 from rfl, if_pos (by rw [lt_nI (by omega) (by decide)]; omega), pu_s, hf0 103 64 (fun q => absurd q (by decide)), h, ldI_nI (by omega) (by decide), pk_mul, nI_add, stI_nI (by omega) (by decide), pu_s, nI_1, hf0 133 i (fun q => absurd q (by decide))]
    refine ih (i + 1) m _ (fun b j hb => ?_) h2 (fun j hj => ?_) (by omega) (by omega)
    · rw [gI_sI, if_neg]
      · exact hf0 b j (fun q => by have := hb q; omega)
      · rintro ⟨x1, x2⟩
        have := hb x1
        omega
    · by_cases e : j = i
      · rw [e, gI_ss]
      · rw [gI_sj (by omega)]
        exact hs j (by omega)
theorem shiftM_l {M0 : Mem} : ∀ (d i fuel : Nat) (M : Mem), (∀ b j, b ≠ 134 → gI M b j = gI M0 b j) → M.2 = M0.2 → (∀ k, k < i → gI M 134 k = gI M0 134 (k + 31)) → (∀ k, i ≤ k → gI M 134 k = gI M0 134 k) → i + d = 1209 → d < fuel →
    ∃ M9, fX13_keeps_l12 fuel M (nI (i + 31)) = fX13_keeps_b50 (sI M9 103 64 (gI M9 103 64 - 1)) ∧ (∀ b j, b ≠ 134 → gI M9 b j = gI M0 b j) ∧ M9.2 = M0.2 ∧ (∀ k, k < 1209 → gI M9 134 k = gI M0 134 (k + 31)) := by
  intro d
  induction d with
  | zero =>
    intro i fuel M hf0 h2 hs ht hi hf
    obtain ⟨m, rfl⟩ : ∃ m, fuel = m + 1 := ⟨fuel - 1, by omega⟩
    rw [fX13_keeps_l12, show (1240 : Int32) = nI 1240 from rfl, if_neg (by rw [lt_nI (by omega) (by decide)]; omega), pu_s, pu_s]
    exact ⟨M, rfl, hf0, h2, fun k hk => hs k (by omega)⟩
  | succ d ih =>
    intro i fuel M hf0 h2 hs ht hi hf
    obtain ⟨m, rfl⟩ : ∃ m, fuel = m + 1 := ⟨fuel - 1, by omega⟩
    rw [fX13_keeps_l12, show (1240 : Int32) = nI 1240 from rfl, if_pos (by rw [lt_nI (by omega) (by decide)]; omega), ldI_nI (by omega) (by decide), show nI (i + 31) - 31 = nI i from pk_sub (a := i + 31) (b := 31) (by omega), stI_nI (by omega) (by decide), pu_s, nI_1, show i + 31 + 1 = (i + 1) + 31 by omega]
    refine ih (i + 1) m _ (fun b j hb => by rw [gI_sa hb]; exact hf0 b j hb) h2 (fun k hk => ?_) (fun k hk => ?_) (by omega) (by omega)
    · by_cases e : k = i
      · rw [e, gI_ss]; exact ht _ (by omega)
      · rw [gI_sj e]; exact hs k (by omega)
    · rw [gI_sj (by omega)]; exact ht k (by omega)
theorem keepM_ok {M : Mem} {n : Nat} (h : gI M 103 64 = nI n) (hn : n ≤ 40) : ∃ M1, fX13_keeps M = some M1 ∧ gI M1 103 64 = nI (pn n) ∧ (∀ i, i < pn n → rA M1 134 (31 * i) = pr n (fun i => rA M 134 (31 * i)) (rB M 0) i) ∧ (∀ b j, b ≠ 134 → (b = 103 → j ≠ 64) → gI M1 b j = gI M b j) ∧ M1.2 = M.2 := by
  unfold fX13_keeps
  rw [pu_s, h]
  by_cases h40 : n < 40
  · rw [if_neg (by rw [show (40 : Int32) = nI 40 from rfl, eq_nI (by omega) (by decide)]; omega)]
    obtain ⟨M1, q1, q2, q3, q4, q5⟩ := keepsM_l h h40 31 0 FU M (fun _ _ _ => rfl) rfl (fun j hj => absurd hj (by omega)) rfl (by decide)
    unfold pn pr
    rw [if_pos h40]
    refine ⟨M1, q1, q2, fun i hi => ?_, fun b j hb hj => q4 b j (fun q => absurd q hb) hj, q5⟩
    rw [if_pos h40]
    by_cases hi2 : i = n
    · rw [if_pos hi2, hi2, q3]
    · rw [if_neg hi2]
      funext j
      unfold rA
      dsimp only
      by_cases hj : j < 31
      · rw [if_pos hj, if_pos hj, q4 134 _ (fun _ => by omega) (fun q => absurd q (by decide))]
      · rw [if_neg hj, if_neg hj]
  · have hn40 : n = 40 := by omega
    subst hn40
    rw [if_pos (show nI 40 = 40 from rfl)]
    obtain ⟨M9, s1, s2, s3, s4⟩ := shiftM_l (M0 := M) 1209 0 FU M (fun _ _ _ => rfl) rfl (fun k hk => absurd hk (by omega)) (fun k _ => rfl) rfl (by decide)
    have e39 : gI M9 103 64 - 1 = nI 39 := by rw [s2 103 64 (by decide), h]; rfl
    rw [show fX13_keeps_l12 FU M 31 = _ from s1, e39]
    obtain ⟨M1, q1, q2, q3, q4, q5⟩ := keepsM_l (M0 := sI M9 103 64 (nI 39)) (n := 39) gI_ss (by decide) 31 0 FU _ (fun _ _ _ => rfl) rfl (fun j hj => absurd hj (by omega)) rfl (by decide)
    refine ⟨M1, q1, q2, fun i hi => ?_, fun b j hb hj => ?_, by rw [q5]; exact s3⟩
    · unfold pr
      rw [if_neg (by decide)]
      have hi40 : i < 40 := hi
      by_cases hi2 : i = 39
      · rw [if_pos hi2, hi2, q3]
        funext j
        unfold rB
        rw [gI_sa (by decide), s2 133 _ (by decide)]
      · rw [if_neg hi2]
        funext j
        unfold rA
        dsimp only
        by_cases hj : j < 31
        · rw [if_pos hj, if_pos hj, q4 134 _ (fun _ => by omega) (fun q => absurd q (by decide)), gI_sa (by decide), s4 _ (by omega), show 31 * i + j + 31 = 31 * (i + 1) + j by omega]
        · rw [if_neg hj, if_neg hj]
    · rw [q4 b j (fun q => absurd q hb) hj, gI_sI, if_neg (by rintro ⟨x1, x2⟩; exact hj x1 x2)]
      exact s2 b j hb
