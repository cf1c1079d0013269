/-! RESTORE -/
theorem restM_l {M0 : Mem} : ∀ (d i fuel : Nat) (M : Mem), (∀ c j, (c = 133 → 31 ≤ j) → gI M c j = gI M0 c j) → M.2 = M0.2 → (∀ k, k < i → gI M 133 k = gI M0 141 k) → i + d = 31 → d < fuel → ∃ M1, fX13_restore_l32 fuel M (nI i) = some (1, M1) ∧ (∀ k, k < 31 → gI M1 133 k = gI M0 141 k) ∧ (∀ k, k < 1240 → gI M1 134 k = gI M0 142 k) ∧ (∀ k, k < 16 → gI M1 138 k = gI M0 143 k) ∧ (∀ c j, (c = 133 → 31 ≤ j) → c ≠ 134 → c ≠ 138 → gI M1 c j = gI M0 c j) ∧ M1.2 = M0.2 := by
  intro d
  induction d with
  | zero =>
    intro i fuel M h1 h2 h3 hi hf
    obtain ⟨m, rfl⟩ : ∃ m, fuel = m + 1 := ⟨fuel - 1, by omega⟩
    have hi31 : i = 31 := by omega
    subst hi31
    obtain ⟨M1, a1, a2, a3, a4⟩ := copies_ok (M := M) (a := 142) (b := 134) (N := 1240) (by decide) (by decide) (by decide) (by decide) (by decide) (by decide)
    obtain ⟨M2, b1, b2, b3, b4⟩ := copies_ok (M := M1) (a := 143) (b := 138) (N := 16) (by decide) (by decide) (by decide) (by decide) (by decide) (by decide)
    rw [fX13_restore_l32, show (31 : Int32) = nI 31 from rfl, if_neg (by rw [lt_nI (by decide) (by decide)]; omega), a1, b1_s, b1, b1_s]
    refine ⟨M2, rfl, fun k hk => ?_, fun k hk => ?_, fun k hk => ?_, fun c j q1 q2 q3 => ?_, by rw [b4, a4, h2]⟩
    · rw [b3 133 k (by decide), a3 133 k (by decide), h3 k hk]
    · rw [b3 134 k (by decide), a2 k hk, h1 142 k (fun e => absurd e (by decide))]
    · rw [b2 k hk, a3 143 k (by decide), h1 143 k (fun e => absurd e (by decide))]
    · rw [b3 c j q3, a3 c j q2, h1 c j q1]
  | succ d ih =>
    intro i fuel M h1 h2 h3 hi hf
    obtain ⟨m, rfl⟩ : ∃ m, fuel = m + 1 := ⟨fuel - 1, by omega⟩
    rw [fX13_restore_l32, show (31 : Int32) = nI 31 from rfl, if_pos (by rw [lt_nI (by omega) (by decide)]; omega), ldI_nI (by omega) (by decide), stI_nI (by omega) (by decide), pu_s, nI_1, h1 141 i (fun e => absurd e (by decide))]
    refine ih (i + 1) m _ (fun c j hc => by rw [gI_sI, if_neg (fun z => by have := hc z.1; omega)]; exact h1 c j hc) h2 (fun k hk => ?_) (by omega) (by omega)
    by_cases e : k = i
    · rw [e, gI_ss]
    · rw [gI_sj e]; exact h3 k (by omega)
theorem restore_a {A : LA} {M : Mem} (h : Rel A M) : qA (fX12_restore M) (fun M1 => fX13_restore M1) := by
  have h0 := h
  obtain ⟨h1, h2, h3, h4, h5, h6, h7, h8, h9, h10, h11, h12⟩ := h
  rcases h11 with ⟨i1, i2⟩ | ⟨i1, i2, i3, i4, i5, i6⟩
  · refine ⟨0, M, sI M 103 0 0, A, ?_, ?_, h0.ro (RO.rf.st (by unfold scr; omega))⟩
    · unfold fX12_restore
      simp only [pu_s]
      rw [i1, if_pos rfl]
    · unfold fX13_restore
      simp only [pu_s]
      rw [gI_sj (by decide), i2, if_pos rfl]
  · obtain ⟨n, a1, a2, a3, a4⟩ := i5
    obtain ⟨s, s1, s2, s3, s4⟩ := i6
    obtain ⟨C1, c1, c2, c3, c4⟩ := read_ok (M := M) (k := 81) (a := 96) (p := 0) (n := 31) (by decide) (by decide) (by decide) (by decide) (by decide) (by decide)
    obtain ⟨C2, d1, d2, d3, d4, d5⟩ := x1b_ok (M := C1) (x := 91) (y := 97) (n := n) (by decide) (by decide) (by decide) (by rw [c3 97 0 (by decide)]; exact a2) a1
    obtain ⟨C3, e1, e2, e3, e4, e5⟩ := x9b_ok (M := C2) (x := 93) (y := 99) (by decide) (by decide) (by decide)
    have gC : ∀ b j, (b < 81 ∨ 85 < b) → b ≠ 92 → (b = 91 → j ≠ 0) → b ≠ 94 → b ≠ 95 → (b = 93 → j ≠ 0) → gI C3 b j = gI M b j := fun b j q1 q2 q3 q4 q5 q6 => by
      rw [e4 b j (by omega) (by omega) q6, d4 b j (by omega) q3, c3 b j q1]
    have gC2 : ∀ b j, 96 ≤ b → gI C3 b j = gI M b j := fun b j q => gC b j (by omega) (by omega) (by omega) (by omega) (by omega) (by omega)
    let M0 := sI (sI (sI C3 103 0 0) 103 64 (nI n)) 103 69 (nI s)
    obtain ⟨M2, m1, m2, m3, m4, m5, m6⟩ := restM_l (M0 := M0) 31 0 FU M0 (fun _ _ _ => rfl) rfl (fun k hk => absurd hk (by omega)) rfl (by decide)
    have gM0 : ∀ b j, (b = 103 → j ≠ 0 ∧ j ≠ 64 ∧ j ≠ 69) → gI M0 b j = gI C3 b j := fun b j q => by
      show gI (sI (sI (sI C3 103 0 0) 103 64 (nI n)) 103 69 (nI s)) b j = _
      rw [gI_sI, if_neg (fun z => (q z.1).2.2 z.2), gI_sI, if_neg (fun z => (q z.1).2.1 z.2), gI_sI, if_neg (fun z => (q z.1).1 z.2)]
    -- a class cell behind both; a cell that neither wrote
    have gi : ∀ b j, b ≤ 102 → gI M2 b j = gI C3 b j := fun b j q => by
      rw [m5 b j (by omega) (by omega) (by omega), gM0 b j (by omega)]
    have g : ∀ b j, (b < 81 ∨ 85 < b) → b ≠ 92 → (b = 91 → j ≠ 0) → b ≠ 94 → b ≠ 95 → (b = 93 → j ≠ 0) → (b = 133 → 31 ≤ j) → b ≠ 134 → b ≠ 138 → (b = 103 → j ≠ 0 ∧ j ≠ 64 ∧ j ≠ 69) → gI M2 b j = gI M b j := fun b j q1 q2 q3 q4 q5 q6 q7 q8 q9 q10 => by
      rw [m5 b j q7 q8 q9, gM0 b j q10, gC b j q1 q2 q3 q4 q5 q6]
    have g9 : ∀ b j, (b < 81 ∨ 85 < b ∧ b < 91 ∨ 95 < b) → b ≠ 133 → b ≠ 134 → b ≠ 138 → b ≠ 103 → gI M2 b j = gI M b j := fun b j q1 q2 q3 q4 q5 => g b j (by omega) (by omega) (by omega) (by omega) (by omega) (by omega) (by omega) q3 q4 (by omega)
    have e2' : M2.2 = M.2 := by
      rw [m6]
      show C3.2 = M.2
      rw [e5, d5, c4]
    have eB : rB M2 0 = rA M 141 0 := by
      funext j
      unfold rB rA
      by_cases hj : j < 31
      · rw [if_pos hj, if_pos hj, Nat.zero_add, m2 j hj, gM0 141 j (fun e => absurd e (by decide)), gC2 141 j (by decide)]
      · rw [if_neg hj, if_neg hj]
    have eC : rC M2 81 = rW M 96 0 := by
      rw [← c2]
      funext j
      unfold rC
      by_cases hj : j < 31
      · have := pl_4 j hj
        rw [if_pos hj, if_pos hj, gi _ _ (by omega), e4 _ _ (by omega) (by omega) (by omega), d4 _ _ (by omega) (by omega)]
      · rw [if_neg hj, if_neg hj]
    refine ⟨1, C3, M2, A, ?_, ?_, h1, h2.mv (gR_2 e2' _ _) (fun a j q => g9 a j (by omega) (by omega) (by omega) (by omega) (by omega)), h3.mv (fun a j q1 q2 => g a j (by omega) (by omega) (by omega) (by omega) (by omega) (by omega) (by omega) (by omega) (by omega) (fun e => by have := q1 e; omega)), by rw [eC, eB]; exact i3, by rw [eB]; exact i4, ⟨n, a1, ?_, ?_, fun i hi => ?_⟩, ⟨s, s1, ?_, ?_, fun i hi => ?_⟩, h8.mv (g9 _ _ (by decide) (by decide) (by decide) (by decide) (by decide)) (g _ _ (by decide) (by decide) (by decide) (by decide) (by decide) (by decide) (by decide) (by decide) (by decide) (by decide)) (fun j => g9 _ _ (by decide) (by decide) (by decide) (by decide) (by decide)) (fun j => g9 _ _ (by decide) (by decide) (by decide) (by decide) (by decide)), fun i hi => ?_, ?_, imagR.mv (Or.inr ⟨i1, i2, i3, i4, ⟨n, a1, a2, a3, a4⟩, ⟨s, s1, s2, s3, s4⟩⟩) (g9 _ _ (by decide) (by decide) (by decide) (by decide) (by decide)) (fun j q1 q2 => g _ _ (by decide) (by decide) (fun e => absurd e (by decide)) (by decide) (by decide) (fun e => absurd e (by decide)) (fun e => absurd e (by decide)) (by decide) (by decide) (fun _ => by omega)) (fun a j q1 q2 => g9 a j (by omega) (by omega) (by omega) (by omega) (by omega)) (fun a j q1 q2 => g9 a j (by omega) (by omega) (by omega) (by omega) (by omega)), h12.mv (by rw [e2'])⟩
    · unfold fX12_restore
      simp only [pu_s]
      rw [i1, if_neg (by decide), show fX3_read M 81 96 0 = _ from c1, b1_s, d1, b1_s, e1, b1_s]
    · show fX13_restore C3 = _
      unfold fX13_restore
      simp only [pu_s]
      have e74 : gI (sI C3 103 0 0) 103 74 = 1 := by
        rw [gI_sj (by decide), gC2 103 74 (by decide)]; exact i2
      have e75 : gI (sI C3 103 0 0) 103 75 = nI n := by
        rw [gI_sj (by decide), gC2 103 75 (by decide)]; exact a3
      have e76 : gI (sI (sI C3 103 0 0) 103 64 (nI n)) 103 76 = nI s := by
        rw [gI_sj (by decide), gI_sj (by decide), gC2 103 76 (by decide)]; exact s3
      rw [e74, if_neg (by decide), e75, e76]
      exact m1
    · rw [gi 91 0 (by decide), e4 91 0 (by decide) (by decide) (by decide), d2]
    · rw [m5 103 64 (by decide) (by decide) (by decide)]
      show gI (sI (sI (sI C3 103 0 0) 103 64 (nI n)) 103 69 (nI s)) 103 64 = nI n
      rw [gI_sj (by decide), gI_ss]
    · have r1 : rW M2 (91 + 1) (31 * i) = rW M (97 + 1) (31 * i) := rW_sub (n := n) (fun k hk => by
        rw [gi (91 + 1) k (by decide), e4 (91 + 1) k (by decide) (by decide) (fun e => absurd e (by decide)), d3 k hk, c3 (97 + 1) k (by decide)]) hi
      have r2 : rA M2 134 (31 * i) = rA M 142 (31 * i) := rA_sub (n := n) (fun k hk => by
        rw [m3 k (by omega), gM0 142 k (fun e => absurd e (by decide)), gC2 142 k (by decide)]) hi
      rw [r1, r2]
      exact a4 i hi
    · rw [gi 93 0 (by decide), e2, d4 99 0 (by decide) (by decide), c3 99 0 (by decide)]
      exact s2
    · rw [m5 103 69 (by decide) (by decide) (by decide)]
      exact gI_ss
    · obtain ⟨y, z, p1, p2, p3, p4, p5, p6, p7⟩ := s4 i hi
      obtain ⟨f1, f2⟩ := e3 i (by omega)
      refine ⟨y, z, p1, p2, p3, ?_, ?_, ?_, ?_⟩
      · rw [gi (93 + 1) i (by decide), f1, d4 (99 + 1) i (by decide) (fun e => absurd e (by decide)), c3 (99 + 1) i (by decide)]; exact p4
      · rw [gi (93 + 2) i (by decide), f2, d4 (99 + 2) i (by decide) (fun e => absurd e (by decide)), c3 (99 + 2) i (by decide)]; exact p5
      · rw [m4 _ (by omega), gM0 143 _ (fun e => absurd e (by decide)), gC2 143 _ (by decide)]; exact p6
      · rw [m4 _ (by omega), gM0 143 _ (fun e => absurd e (by decide)), gC2 143 _ (by decide)]; exact p7
    · rw [g9 2 i (by decide) (by decide) (by decide) (by decide) (by decide), g9 117 i (by decide) (by decide) (by decide) (by decide) (by decide)]
      exact h9 i hi
    · rw [g9 0 2 (by decide) (by decide) (by decide) (by decide) (by decide), g 103 23 (by decide) (by decide) (by decide) (by decide) (by decide) (by decide) (by decide) (by decide) (by decide) (by decide)]
      exact h10
