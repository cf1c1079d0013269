/-! ACTS: what holds behind one -/
def actC (M M1 : Mem) (r' : Nat → Int32) : Prop := ∃ n : Nat, n ≤ 40 ∧ gI M 91 0 = nI n ∧ gI M1 91 0 = nI (pn n) ∧ (∀ i, i < pn n → rW M1 92 (31 * i) = pr n (fun i => rW M 92 (31 * i)) (rC M 81) i) ∧ rC M1 81 = r' ∧ (∀ b j, b ≠ 92 → (b = 91 → j ≠ 0) → (b < 81 ∨ 85 < b) → b ≠ 46 → b ≠ 47 → b ≠ 48 → gI M1 b j = gI M b j) ∧ M1.2.2 = M.2.2
def actM (M M1 : Mem) (r' : Nat → Int32) : Prop := ∃ n : Nat, n ≤ 40 ∧ gI M 103 64 = nI n ∧ gI M1 103 64 = nI (pn n) ∧ (∀ i, i < pn n → rA M1 134 (31 * i) = pr n (fun i => rA M 134 (31 * i)) (rB M 0) i) ∧ rB M1 0 = r' ∧ (∀ b j, b ≠ 134 → (b = 103 → j ≠ 64 ∧ j ≠ 0) → (b = 133 → 31 ≤ j) → b ≠ 135 → b ≠ 136 → gI M1 b j = gI M b j) ∧ M1.2.2 = M.2.2
theorem gR_22 {M M' : Mem} (h : M'.2.2 = M.2.2) (a j : Nat) : gR M' a j = gR M a j := by
  unfold gR
  rw [h]
theorem Rel.act {A : LA} {M M1 M2 : Mem} {r' : Nat → Int32} (h : Rel A M) (c : actC M M1 r') (m : actM M1 M2 r') (ok : okC A r') : Rel A M2 := by
  obtain ⟨n1, c1, c2, c3, c4, c5, c6, c7⟩ := c
  obtain ⟨n2, m1, m2, m3, m4, m5, m6, m7⟩ := m
  obtain ⟨h1, h2, h3, h4, h5, h6, h7, h8, h9, h10, h11, h12⟩ := h
  -- class cells from M, the reference's from M1
  have gc : ∀ b j, b ≤ 102 → b ≠ 92 → (b = 91 → j ≠ 0) → (b < 81 ∨ 85 < b) → b ≠ 46 → b ≠ 47 → b ≠ 48 → gI M2 b j = gI M b j := fun b j hb q1 q2 q3 q4 q5 q6 => by
    rw [m6 b j (by omega) (fun e => by omega) (fun e => by omega) (by omega) (by omega)]
    exact c6 b j q1 q2 q3 q4 q5 q6
  have gm : ∀ b j, 103 ≤ b → b ≠ 134 → (b = 103 → j ≠ 64 ∧ j ≠ 0) → (b = 133 → 31 ≤ j) → b ≠ 135 → b ≠ 136 → gI M2 b j = gI M b j := fun b j hb q1 q2 q3 q4 q5 => by
    rw [m6 b j q1 q2 q3 q4 q5]
    exact c6 b j (by omega) (fun e => by omega) (by omega) (by omega) (by omega) (by omega)
  have gm1 : ∀ b j, 103 ≤ b → gI M1 b j = gI M b j := fun b j hb => c6 b j (by omega) (fun e => by omega) (by omega) (by omega) (by omega) (by omega)
  have gc1 : ∀ b j, b ≤ 102 → gI M2 b j = gI M1 b j := fun b j hb => m6 b j (by omega) (fun e => by omega) (fun e => by omega) (by omega) (by omega)
  have e2 : M2.2.2 = M.2.2 := m7.trans c7
  obtain ⟨n, a1, a2, a3, a4⟩ := h6
  have en1 : n1 = n := (nI_eq (by omega) (by omega)).mp (c2.symm.trans a2)
  have en2 : n2 = n := (nI_eq (by omega) (by omega)).mp (m2.symm.trans ((gm1 103 64 (by decide)).trans a3))
  subst en1
  subst en2
  have hpn : pn n2 ≤ 40 := by unfold pn; split <;> omega
  refine ⟨h1, h2.mv (gR_22 e2 _ _) (fun a j q => gc a j (by omega) (by omega) (by omega) (by omega) (by omega) (by omega) (by omega)), h3.mv (fun a j q1 q2 => gm a j (by omega) (by omega) (fun e => by have := q1 e; omega) (by omega) (by omega) (by omega)), ?_, by rw [m5]; exact ok, ⟨pn n2, hpn, ?_, m3, fun i hi => ?_⟩, h7.mv (gc _ _ (by decide) (by decide) (by decide) (by decide) (by decide) (by decide) (by decide)) (gm _ _ (by decide) (by decide) (fun _ => by decide) (by decide) (by decide) (by decide)) (fun j => gc _ _ (by decide) (by decide) (fun e => absurd e (by decide)) (by decide) (by decide) (by decide) (by decide)) (fun j => gc _ _ (by decide) (by decide) (fun e => absurd e (by decide)) (by decide) (by decide) (by decide) (by decide)) (fun j => gm _ _ (by decide) (by decide) (fun e => absurd e (by decide)) (fun e => absurd e (by decide)) (by decide) (by decide)), h8.mv (gc _ _ (by decide) (by decide) (by decide) (by decide) (by decide) (by decide) (by decide)) (gm _ _ (by decide) (by decide) (fun _ => by decide) (by decide) (by decide) (by decide)) (fun j => gc _ _ (by decide) (by decide) (fun e => absurd e (by decide)) (by decide) (by decide) (by decide) (by decide)) (fun j => gm _ _ (by decide) (by decide) (fun e => absurd e (by decide)) (fun e => absurd e (by decide)) (by decide) (by decide)), fun i hi => ?_, ?_, h11.mv (gc _ _ (by decide) (by decide) (by decide) (by decide) (by decide) (by decide) (by decide)) (fun j q1 q2 => gm _ _ (by decide) (by decide) (fun _ => by omega) (fun e => absurd e (by decide)) (by decide) (by decide)) (fun a j q1 q2 => gc a j (by omega) (by omega) (by omega) (by omega) (by omega) (by omega) (by omega)) (fun a j q1 q2 => gm a j (by omega) (by omega) (by omega) (by omega) (by omega) (by omega)), h12.mv e2⟩
  · rw [m5, ← c5]
    funext j
    unfold rC
    by_cases hj : j < 31
    · have := pl_4 j hj
      rw [if_pos hj, if_pos hj, gc1 _ _ (by omega)]
    · rw [if_neg hj, if_neg hj]
  · rw [gc1 91 0 (by decide)]; exact c3
  · have e1 : rW M2 92 (31 * i) = rW M1 92 (31 * i) := rW_mv fun j => gc1 92 j (by decide)
    have eB : rB M1 0 = rB M 0 := by
      funext j
      unfold rB
      rw [gm1 133 _ (by decide)]
    have eA : ∀ i, rA M1 134 (31 * i) = rA M 134 (31 * i) := fun i => rA_mv fun j => gm1 134 j (by decide)
    rw [e1, c4 i hi, m4 i hi, eB, h4]
    simp only [eA]
    unfold pr
    unfold pn at hi
    by_cases h40 : n2 < 40
    · rw [if_pos h40] at hi
      rw [if_pos h40, if_pos h40]
      by_cases hi2 : i = n2
      · rw [if_pos hi2, if_pos hi2]; exact ⟨rfl, h5⟩
      · rw [if_neg hi2, if_neg hi2]; exact a4 i (by omega)
    · rw [if_neg h40] at hi
      rw [if_neg h40, if_neg h40]
      by_cases hi2 : i = 39
      · rw [if_pos hi2, if_pos hi2]; exact ⟨rfl, h5⟩
      · rw [if_neg hi2, if_neg hi2]; exact a4 (i + 1) (by omega)
  · rw [gc 2 i (by decide) (by decide) (fun e => absurd e (by decide)) (by decide) (by decide) (by decide) (by decide), gm 117 i (by decide) (by decide) (fun e => absurd e (by decide)) (fun e => absurd e (by decide)) (by decide) (by decide)]
    exact h9 i hi
  · rw [gc 0 2 (by decide) (by decide) (by decide) (by decide) (by decide) (by decide) (by decide), gm 103 23 (by decide) (by decide) (fun _ => by decide) (by decide) (by decide) (by decide)]
    exact h10
/-- a refused call -/
theorem Rel.ref {A : LA} {M : Mem} {i : Nat} (h : Rel A M) (hi : i < 3) : Rel A (sI (sI (sI M 2 i (gI M 2 i + 1)) 103 0 0) 117 i (gI M 117 i + 1)) := by
  obtain ⟨h1, h2, h3, h4, h5, h6, h7, h8, h9, h10, h11, h12⟩ := h
  generalize hM2 : sI (sI (sI M 2 i (gI M 2 i + 1)) 103 0 0) 117 i (gI M 117 i + 1) = M2
  have g : ∀ b j, b ≠ 2 → b ≠ 117 → (b = 103 → j ≠ 0) → gI M2 b j = gI M b j := fun b j q1 q2 q3 => by
    rw [← hM2, gI_sa q2, gI_sI, if_neg (fun q => q3 q.1 q.2), gI_sa q1]
  have e2 : M2.2 = M.2 := by rw [← hM2]; rfl
  have eC : rC M2 81 = rC M 81 := by
    funext j
    unfold rC
    by_cases hj : j < 31
    · have := pl_4 j hj
      rw [if_pos hj, if_pos hj, g _ _ (by omega) (by omega) (by omega)]
    · rw [if_neg hj, if_neg hj]
  have eB : rB M2 0 = rB M 0 := by
    funext j
    unfold rB
    rw [g 133 _ (by decide) (by decide) (fun e => absurd e (by decide))]
  refine ⟨h1, h2.mv (gR_2 e2 _ _) (fun a j q => g a j (by omega) (by omega) (by omega)), h3.mv (fun a j q1 q2 => g a j (by omega) (by omega) (fun e => by have := q1 e; omega)), by rw [eC, eB]; exact h4, by rw [eB]; exact h5, h6.mv (g _ _ (by decide) (by decide) (by decide)) (g _ _ (by decide) (by decide) (by decide)) (fun j => g _ _ (by decide) (by decide) (fun e => absurd e (by decide))) (fun j => g _ _ (by decide) (by decide) (fun e => absurd e (by decide))), h7.mv (g _ _ (by decide) (by decide) (by decide)) (g _ _ (by decide) (by decide) (by decide)) (fun j => g _ _ (by decide) (by decide) (fun e => absurd e (by decide))) (fun j => g _ _ (by decide) (by decide) (fun e => absurd e (by decide))) (fun j => g _ _ (by decide) (by decide) (fun e => absurd e (by decide))), h8.mv (g _ _ (by decide) (by decide) (by decide)) (g _ _ (by decide) (by decide) (by decide)) (fun j => g _ _ (by decide) (by decide) (fun e => absurd e (by decide))) (fun j => g _ _ (by decide) (by decide) (fun e => absurd e (by decide))), fun k hk => ?_, ?_, h11.mv (g _ _ (by decide) (by decide) (by decide)) (fun j q1 q2 => g _ _ (by decide) (by decide) (by omega)) (fun a j q1 q2 => g a j (by omega) (by omega) (by omega)) (fun a j q1 q2 => g a j (by omega) (by omega) (by omega)), h12.mv (by rw [e2])⟩
  · rw [← hM2, gI_sa (by decide), gI_sa (by decide), gI_sI, gI_sI]
    by_cases hk2 : k = i
    · rw [if_pos ⟨rfl, hk2⟩, if_pos ⟨rfl, hk2⟩, h9 i hi]
    · rw [if_neg (fun q => hk2 q.2), if_neg (fun q => hk2 q.2), gI_sa (by decide), gI_sa (by decide)]
      exact h9 k hk
  · rw [g 0 2 (by decide) (by decide) (by decide), g 103 23 (by decide) (by decide) (by decide)]
    exact h10
theorem refuseC_ok {M : Mem} {i : Nat} (hi : i < 3) : fX12_refuse M (nI i) = some (-1, sI M 2 i (gI M 2 i + 1)) := by
  unfold fX12_refuse
  rw [ldI_nI hi (by decide), stI_nI hi (by decide)]
theorem refuseM_ok {M : Mem} {i : Nat} (hi : i < 3) : fX13_refuses M (nI i) = some (-1, sI M 117 i (gI M 117 i + 1)) := by
  unfold fX13_refuses
  rw [ldI_nI hi (by decide), stI_nI hi (by decide)]
/-- an act that answers a number: both answer alike, and all holds behind it -/
def qA (o1 : Option (Int32 × Mem)) (o2 : Mem → Option (Int32 × Mem)) : Prop := ∃ v M1 M2 A', o1 = some (v, M1) ∧ o2 M1 = some (v, M2) ∧ Rel A' M2
theorem ref_qA {A : LA} {M : Mem} {i : Nat} {o1 : Option (Int32 × Mem)} {o2 : Mem → Option (Int32 × Mem)} (h : Rel A M) (hi : i < 3) (h1 : o1 = fX12_refuse M (nI i)) (h2 : ∀ M1, o2 M1 = fX13_refuses (sI M1 103 0 0) (nI i)) : qA o1 o2 := by
  refine ⟨-1, _, _, A, by rw [h1, refuseC_ok hi], by rw [h2, refuseM_ok hi], ?_⟩
  have := h.ref hi
  rwa [show gI (sI (sI M 2 i (gI M 2 i + 1)) 103 0 0) 117 i = gI M 117 i from by rw [gI_sa (by decide), gI_sa (by decide)]]
/-- the class keeps the city, then changes it -/
theorem actC_of {A : LA} {M M1 M2 : Mem} {r' : Nat → Int32} (h : Rel A M) (hk : fX1_keep M 91 81 = some M1) (hr : rC M2 81 = r') (hf : frC 81 M1 M2) : actC M M2 r' := by
  obtain ⟨n, a1, a2, a3, a4⟩ := h.2.2.2.2.2.1
  obtain ⟨M9, k1, k2, k3, k4, k5⟩ := keepC_ok a2 a1
  cases hk.symm.trans k1
  refine ⟨n, a1, a2, by rw [hf.1 91 0 (by decide) (by decide) (by decide) (by decide)]; exact k2, fun i hi => ?_, hr, fun b j q1 q2 q3 q4 q5 q6 => ?_, by rw [hf.2, k5]⟩
  · rw [← k3 i hi]
    exact rW_mv fun j => hf.1 92 j (by decide) (by decide) (by decide) (by decide)
  · rw [hf.1 b j (by omega) q4 q5 q6]
    exact k4 b j q1 q2
theorem keepC_row {A : LA} {M : Mem} (h : Rel A M) : ∃ M1, fX1_keep M 91 81 = some M1 ∧ rC M1 81 = rB M 0 ∧ LandC A M1 := by
  obtain ⟨n, a1, a2, a3, a4⟩ := h.2.2.2.2.2.1
  obtain ⟨M1, k1, k2, k3, k4, k5⟩ := keepC_ok a2 a1
  refine ⟨M1, k1, ?_, h.2.1.mv (gR_2 k5 _ _) (fun a j q => k4 a j (by omega) (by omega))⟩
  rw [← rC81 h]
  funext j
  unfold rC
  by_cases hj : j < 31
  · have := pl_4 j hj
    rw [if_pos hj, if_pos hj, k4 _ _ (by omega) (by omega)]
  · rw [if_neg hj, if_neg hj]
/-- the reference's model side behind an act of the class: what it needs -/
theorem actC.M {A : LA} {M M1 : Mem} {r' : Nat → Int32} (h : Rel A M) (c : actC M M1 r') : LandM A M1 ∧ rB M1 0 = rB M 0 ∧ gI M1 103 64 = gI M 103 64 := by
  obtain ⟨n, c1, c2, c3, c4, c5, c6, c7⟩ := c
  refine ⟨h.2.2.1.mv (fun a j q1 q2 => c6 a j (by omega) (by omega) (by omega) (by omega) (by omega) (by omega)), ?_, c6 103 64 (by decide) (by decide) (by decide) (by decide) (by decide) (by decide)⟩
  funext j
  unfold rB
  rw [c6 133 _ (by decide) (fun e => absurd e (by decide)) (by decide) (by decide) (by decide) (by decide)]
theorem keepM_row {A : LA} {M : Mem} {n : Nat} (hL : LandM A M) (h64 : gI M 103 64 = nI n) (hn : n ≤ 40) : ∃ M1, fX13_keeps (sI M 103 0 0) = some M1 ∧ rB M1 0 = rB M 0 ∧ LandM A M1 := by
  obtain ⟨M1, k1, k2, k3, k4, k5⟩ := keepM_ok (M := sI M 103 0 0) (n := n) (by rw [gI_sj (by decide)]; exact h64) hn
  refine ⟨M1, k1, ?_, (m0L hL).mv (fun a j q1 q2 => k4 a j (by omega) (fun e => by have := q1 e; omega))⟩
  rw [← m0B (M := M)]
  funext j
  unfold rB
  rw [k4 133 _ (by decide) (fun e => absurd e (by decide))]
theorem actM_of {M M1 M2 : Mem} {n : Nat} {r' : Nat → Int32} (h64 : gI M 103 64 = nI n) (hn : n ≤ 40) (hk : fX13_keeps (sI M 103 0 0) = some M1) (hr : rB M2 0 = r') (hf : frM 0 M1 M2) : actM M M2 r' := by
  obtain ⟨M9, k1, k2, k3, k4, k5⟩ := keepM_ok (M := sI M 103 0 0) (n := n) (by rw [gI_sj (by decide)]; exact h64) hn
  cases hk.symm.trans k1
  have eA : ∀ i, rA (sI M 103 0 0) 134 (31 * i) = rA M 134 (31 * i) := fun i => rA_mv fun j => gI_sa (by decide)
  refine ⟨n, hn, h64, by rw [hf.1 103 64 (fun e => absurd e (by decide)) (by decide) (by decide)]; exact k2, fun i hi => ?_, hr, fun b j q1 q2 q3 q4 q5 => ?_, by rw [hf.2, k5]; rfl⟩
  · rw [show rA M2 134 (31 * i) = rA M1 134 (31 * i) from rA_mv fun j => hf.1 134 j (fun e => absurd e (by decide)) (by decide) (by decide), k3 i hi, m0B]
    simp only [eA]
  · rw [hf.1 b j (fun e => Or.inr (by have := q3 e; omega)) q4 q5, k4 b j q1 (fun e => (q2 e).1), gI_sI, if_neg (fun q => (q2 q.1).2 q.2)]
