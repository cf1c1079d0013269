/-! SEE, FORGET -/
theorem Rel.seen {A : LA} {M M2 : Mem} (h : Rel A M) (g : ∀ b j, b ≠ 94 → b ≠ 95 → b ≠ 138 → (b = 93 → j ≠ 0) → (b = 103 → j ≠ 0 ∧ j ≠ 69) → gI M2 b j = gI M b j) (e2 : M2.2.2 = M.2.2) (hs : seenR M2 93 69 138) : Rel A M2 := by
  obtain ⟨h1, h2, h3, h4, h5, h6, h7, h8, h9, h10, h11, h12⟩ := h
  have eC : rC M2 81 = rC M 81 := by
    funext j
    unfold rC
    by_cases hj : j < 31
    · have := pl_4 j hj
      rw [if_pos hj, if_pos hj, g _ _ (by omega) (by omega) (by omega) (by omega) (by omega)]
    · rw [if_neg hj, if_neg hj]
  have eB : rB M2 0 = rB M 0 := by
    funext j
    unfold rB
    rw [g 133 _ (by decide) (by decide) (by decide) (fun e => absurd e (by decide)) (fun e => absurd e (by decide))]
  refine ⟨h1, h2.mv (gR_22 e2 _ _) (fun a j q => g a j (by omega) (by omega) (by omega) (by omega) (by omega)), h3.mv (fun a j q1 q2 => g a j (by omega) (by omega) (by omega) (by omega) (fun e => by have := q1 e; omega)), by rw [eC, eB]; exact h4, by rw [eB]; exact h5, h6.mv (g _ _ (by decide) (by decide) (by decide) (by decide) (by decide)) (g _ _ (by decide) (by decide) (by decide) (by decide) (by decide)) (fun j => g _ _ (by decide) (by decide) (by decide) (fun e => absurd e (by decide)) (fun e => absurd e (by decide))) (fun j => g _ _ (by decide) (by decide) (by decide) (fun e => absurd e (by decide)) (fun e => absurd e (by decide))), hs, h8.mv (g _ _ (by decide) (by decide) (by decide) (by decide) (by decide)) (g _ _ (by decide) (by decide) (by decide) (by decide) (by decide)) (fun j => g _ _ (by decide) (by decide) (by decide) (fun e => absurd e (by decide)) (fun e => absurd e (by decide))) (fun j => g _ _ (by decide) (by decide) (by decide) (fun e => absurd e (by decide)) (fun e => absurd e (by decide))), fun i hi => ?_, ?_, h11.mv (g _ _ (by decide) (by decide) (by decide) (by decide) (by decide)) (fun j q1 q2 => g _ _ (by decide) (by decide) (by decide) (fun e => absurd e (by decide)) (fun _ => by omega)) (fun a j q1 q2 => g a j (by omega) (by omega) (by omega) (by omega) (by omega)) (fun a j q1 q2 => g a j (by omega) (by omega) (by omega) (by omega) (by omega)), h12.mv e2⟩
  · rw [g 2 i (by decide) (by decide) (by decide) (fun e => absurd e (by decide)) (fun e => absurd e (by decide)), g 117 i (by decide) (by decide) (by decide) (fun e => absurd e (by decide)) (fun e => absurd e (by decide))]
    exact h9 i hi
  · rw [g 0 2 (by decide) (by decide) (by decide) (by decide) (by decide), g 103 23 (by decide) (by decide) (by decide) (by decide) (by decide)]
    exact h10
theorem forget_a {A : LA} {M : Mem} (h : Rel A M) : ∃ M1 M2, fX12_forget M = some M1 ∧ fX13_forget M1 = some M2 ∧ Rel A M2 := by
  refine ⟨sI M 93 0 0, sI (sI (sI M 93 0 0) 103 0 0) 103 69 0, rfl, rfl, h.seen (fun b j q1 q2 q3 q4 q5 => ?_) rfl ⟨0, by decide, ?_, ?_, fun i hi => absurd hi (by omega)⟩⟩
  · rw [gI_sI, if_neg (fun q => (q5 q.1).2 q.2), gI_sI, if_neg (fun q => (q5 q.1).1 q.2), gI_sI, if_neg (fun q => q4 q.1 q.2)]
  · rw [gI_sa (by decide), gI_sa (by decide), gI_ss]; rfl
  · rw [gI_ss]; rfl
theorem see_a {A : LA} {M : Mem} (h : Rel A M) (x y : Int32) : qA (fX12_see M x y) (fun M1 => fX13_see M1 x y) := by
  obtain ⟨n, s1, s2, s3, s4⟩ := h.2.2.2.2.2.2.1
  have k8 : kd 93 = 8 := by decide
  have e : ∀ M9, fX12_see_b34 M9 = fX12_refuse M9 (nI 2) := fun M9 => by
    unfold fX12_see_b34
    rw [show (2 : Int32) = nI 2 from rfl, refuseC_ok (by decide), b2_s]
  have em : ∀ M9, fX13_see_b35 M9 = fX13_refuses M9 (nI 2) := fun M9 => by
    unfold fX13_see_b35
    rw [show (2 : Int32) = nI 2 from rfl, refuseM_ok (by decide), b2_s]
  -- both refuse
  have rf : ∀ (o1 : Option (Int32 × Mem)) (o2 : Mem → Option (Int32 × Mem)), o1 = fX12_refuse M (nI 2) → (∀ M1, gI M1 103 69 = nI n → o2 M1 = fX13_refuses (sI M1 103 0 0) (nI 2)) → qA o1 o2 := fun o1 o2 q1 q2 => by
    refine ⟨-1, _, _, A, by rw [q1, refuseC_ok (by decide)], by rw [q2 _ (by rw [gI_sa (by decide)]; exact s3), refuseM_ok (by decide)], ?_⟩
    have := h.ref (i := 2) (by decide)
    rwa [show gI (sI (sI M 2 2 (gI M 2 2 + 1)) 103 0 0) 117 2 = gI M 117 2 from by rw [gI_sa (by decide), gI_sa (by decide)]]
  by_cases hx : x < 1 ∨ (30 : Int32) < x
  · refine rf _ _ ?_ (fun M1 g => ?_)
    · unfold fX12_see
      by_cases h1 : x < 1
      · rw [if_pos h1, e]
      · rw [if_neg h1, if_pos (hx.resolve_left h1), e]
    · show fX13_see M1 x y = _
      unfold fX13_see
      rw [pu_s, pu_s, gI_sj (by decide), g, within_eq, b1_s, if_pos hx, if_pos rfl, em]
      exact ite_self _
  · by_cases hy : y < 0 ∨ (999 : Int32) < y
    · refine rf _ _ ?_ (fun M1 g => ?_)
      · unfold fX12_see
        rw [if_neg (fun q => hx (Or.inl q)), if_neg (fun q => hx (Or.inr q))]
        by_cases h1 : y < 0
        · rw [if_pos h1, e]
        · rw [if_neg h1, if_pos (hy.resolve_left h1), e]
      · show fX13_see M1 x y = _
        unfold fX13_see
        rw [pu_s, pu_s, gI_sj (by decide), g]
        by_cases h8 : nI n = 8
        · rw [if_pos h8, em]
        · rw [if_neg h8, within_eq, b1_s, if_neg hx, if_neg (by decide), within_eq, b1_s, if_pos hy, if_pos rfl, em]
    · obtain ⟨t, ht1, ht, et⟩ := lt1_of (lo := 1) (n := 30) hx (by decide) (by decide)
      obtain ⟨u, hu, eu⟩ := lt_of (n := 999) hy (by decide)
      by_cases h8 : n = 8
      · refine rf _ _ ?_ (fun M1 g => ?_)
        · unfold fX12_see fX9_add
          rw [if_neg (fun q => hx (Or.inl q)), if_neg (fun q => hx (Or.inr q)), if_neg (fun q => hy (Or.inl q)), if_neg (fun q => hy (Or.inr q)), ck_t k8, pu_s, s2, h8, if_neg (by decide), b2_s, if_pos rfl, e]
        · show fX13_see M1 x y = _
          unfold fX13_see
          rw [pu_s, pu_s, gI_sj (by decide), g, h8, if_pos (show nI 8 = 8 from rfl), em]
      · have hn : n < 8 := by omega
        let M1 := sI (sI (sI M 94 n (nI t)) 95 n (nI u)) 93 0 (nI (n + 1))
        let M2 := sI (sI (sI (sI M1 103 0 0) 138 (2 * n) (nI t)) 138 (2 * n + 1) (nI u)) 103 69 (nI (n + 1))
        refine ⟨nI (n + 1), M1, M2, A, ?_, ?_, h.seen (fun b j q1 q2 q3 q4 q5 => ?_) rfl ⟨n + 1, by omega, ?_, gI_ss, fun i hi => ?_⟩⟩
        · unfold fX12_see fX9_add
          rw [if_neg (fun q => hx (Or.inl q)), if_neg (fun q => hx (Or.inr q)), if_neg (fun q => hy (Or.inl q)), if_neg (fun q => hy (Or.inr q)), ck_t k8]
          simp only [pu_s]
          rw [s2, show (8 : Int32) = nI 8 from rfl, if_pos (by rw [lt_nI (by omega) (by decide)]; omega), stI_nI (by omega) (by decide), gI_sa (by decide), s2, stI_nI (by omega) (by decide), gI_sa (by decide), gI_sa (by decide), s2, nI_1, b2_s, if_neg (by decide), et, eu, gI_ss]
        · show fX13_see M1 x y = _
          unfold fX13_see
          have g69 : gI M1 103 69 = nI n := by
            show gI (sI (sI (sI M 94 n (nI t)) 95 n (nI u)) 93 0 (nI (n + 1))) 103 69 = _
            rw [gI_sa (by decide), gI_sa (by decide), gI_sa (by decide)]; exact s3
          simp only [pu_s]
          rw [gI_sj (by decide), g69, show (8 : Int32) = nI 8 from rfl, if_neg (by rw [eq_nI (by omega) (by decide)]; omega), within_eq, b1_s, if_neg hx, if_neg (by decide), within_eq, b1_s, if_neg hy, if_neg (by decide), show (2 : Int32) = nI 2 from rfl, pk_mul, stI_nI (by omega) (by decide), gI_sa (by decide), gI_sj (by decide), g69, pk_mul, nI_1, stI_nI (by omega) (by decide)]
          simp (disch := omega) only [gI_sa, gI_sj, gI_ss, g69, nI_1, et, eu]
          rfl
        · show gI (sI (sI (sI (sI M1 103 0 0) 138 (2 * n) (nI t)) 138 (2 * n + 1) (nI u)) 103 69 (nI (n + 1))) b j = _
          rw [gI_sI, if_neg (fun q => (q5 q.1).2 q.2), gI_sa q3, gI_sa q3, gI_sI, if_neg (fun q => (q5 q.1).1 q.2)]
          show gI (sI (sI (sI M 94 n (nI t)) 95 n (nI u)) 93 0 (nI (n + 1))) b j = _
          rw [gI_sI, if_neg (fun q => q4 q.1 q.2), gI_sa q2, gI_sa q1]
        · show gI (sI (sI (sI (sI M1 103 0 0) 138 (2 * n) (nI t)) 138 (2 * n + 1) (nI u)) 103 69 (nI (n + 1))) 93 0 = _
          rw [gI_sa (by decide), gI_sa (by decide), gI_sa (by decide), gI_sa (by decide), gI_ss]
        · have g94 : ∀ j, gI M2 94 j = if j = n then nI t else gI M 94 j := fun j => by
            show gI (sI (sI (sI (sI (sI (sI (sI M 94 n (nI t)) 95 n (nI u)) 93 0 (nI (n + 1))) 103 0 0) 138 (2 * n) (nI t)) 138 (2 * n + 1) (nI u)) 103 69 (nI (n + 1))) 94 j = _
            rw [gI_sa (by decide), gI_sa (by decide), gI_sa (by decide), gI_sa (by decide), gI_sa (by decide), gI_sa (by decide), gI_sI]
            simp
          have g95 : ∀ j, gI M2 95 j = if j = n then nI u else gI M 95 j := fun j => by
            show gI (sI (sI (sI (sI (sI (sI (sI M 94 n (nI t)) 95 n (nI u)) 93 0 (nI (n + 1))) 103 0 0) 138 (2 * n) (nI t)) 138 (2 * n + 1) (nI u)) 103 69 (nI (n + 1))) 95 j = _
            rw [gI_sa (by decide), gI_sa (by decide), gI_sa (by decide), gI_sa (by decide), gI_sa (by decide), gI_sI, gI_sa (by decide)]
            simp
          have g138 : ∀ j, gI M2 138 j = if j = 2 * n + 1 then nI u else if j = 2 * n then nI t else gI M 138 j := fun j => by
            show gI (sI (sI (sI (sI (sI (sI (sI M 94 n (nI t)) 95 n (nI u)) 93 0 (nI (n + 1))) 103 0 0) 138 (2 * n) (nI t)) 138 (2 * n + 1) (nI u)) 103 69 (nI (n + 1))) 138 j = _
            rw [gI_sa (by decide), gI_sI, gI_sI, gI_sa (by decide), gI_sa (by decide), gI_sa (by decide), gI_sa (by decide)]
            simp
          by_cases hi2 : i = n
          · refine ⟨t, u, ht1, ht, hu, ?_, ?_, ?_, ?_⟩
            · rw [show 93 + 1 = 94 from rfl, g94, if_pos hi2]
            · rw [show 93 + 2 = 95 from rfl, g95, if_pos hi2]
            · rw [g138, if_neg (by omega), if_pos (by omega)]
            · rw [g138, if_pos (by omega)]
          · obtain ⟨y1, z1, p1, p2, p3, p4, p5, p6, p7⟩ := s4 i (by omega)
            refine ⟨y1, z1, p1, p2, p3, ?_, ?_, ?_, ?_⟩
            · rw [show 93 + 1 = 94 from rfl, g94, if_neg hi2]; exact p4
            · rw [show 93 + 2 = 95 from rfl, g95, if_neg hi2]; exact p5
            · rw [g138, if_neg (by omega), if_neg (by omega)]; exact p6
            · rw [g138, if_neg (by omega), if_neg (by omega)]; exact p7
