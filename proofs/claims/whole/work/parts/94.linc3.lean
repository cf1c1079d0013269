/-! TEXTS: friends, fighters, ways, harvests as the class reads them -/
theorem ruls_mv {P q : Nat} {A A' : LA} {M M' : Mem} (h : landQ P A q M) (hc : ∀ i, aC A' i = aC A i) (f : ∀ a j, P + 14 ≤ a → a ≤ P + 16 → gI M' a j = gI M a j) : ruleQ M' (P + 15) (P + 14) (aC A' 0) q ∧ ruleQ M' (P + 16) (P + 14) (aC A' 1) q ∧ (gI M' (P + 15) 3 = 0 ∨ gI M' (P + 15) 3 = 1) ∧ (gI M' (P + 15) 3 = 0 → ∀ x ∈ aC A' 0, x ≠ -6) := by
  obtain ⟨w1, w2, w3, w4⟩ := h.2.2
  rw [hc, hc, f (P + 15) 3 (by omega) (by omega)]
  exact ⟨w1.mv (Nat.le_refl _) (f _ _ (by omega) (by omega)) (f _ _ (by omega) (by omega)) (fun i _ => f _ _ (by omega) (by omega)), w2.mv (Nat.le_refl _) (f _ _ (by omega) (by omega)) (f _ _ (by omega) (by omega)) (fun i _ => f _ _ (by omega) (by omega)), w3, w4⟩
theorem rC_21 {M M' : Mem} (f : ∀ a j, 21 ≤ a → a ≤ 25 → gI M' a j = gI M a j) : rC M' 21 = rC M 21 := by
  funext j
  unfold rC
  by_cases hj : j < 31
  · have := pl_4 j hj
    rw [if_pos hj, if_pos hj, f _ _ (by omega) (by omega)]
  · rw [if_neg hj, if_neg hj]
theorem friC {c : Nat → Nat} {L P : Nat} {M0 : Mem} {S : LNS} {q : Nat} {M : Mem} (hP : HP P M0) (h : pC c L P M0 S q M) (hn : aN S.1 2 < 6) : outC c L P M0 (fX6_friendLine M) (friR c L S q) := by
  unfold fX6_friendLine friR
  refine sgnC (i := 0) (m := 9) hP h (by decide) (by decide) (by decide) fun a M1 _ h1 g1 _ => ?_
  refine numC (i := 1) (lo := 0) (hi := 9) hP h1 (by decide) (by decide) (by decide) fun b M4 _ h4 g4 f4 => ?_
  have v0 : gI M4 26 0 = a.1 := by rw [f4 0 (by decide)]; exact g1
  have hp := hP.1
  have hk := hP.k.1
  have hr : gR M4 3 1 = P := h4.gR hP
  have hN : gI M4 P 8 = nI (aN S.1 2) := h4.2.2.2.1.1.2.2.1
  rw [pu_s, hr, ck_t hk, pu_s, hN, show (6 : Int32) = nI 6 from rfl, if_pos (by rw [lt_nI (by omega) (by decide)]; exact hn), pu_s, ck_t hk, pu_s, hN, ld26.1, stI_nI hn (by decide), v0]
  rw [pu_s, show gR (sI M4 25 (aN S.1 2) a.1) 3 1 = P from hr, ck_t hk, pu_s, ck_t hk, pu_s, gI_sa (by omega), hN, ld26.2.1, gI_sa (by omega), g4, stI_nI hn (by decide)]
  rw [pu_s, show gR (sI (sI M4 25 (aN S.1 2) a.1) (P + 7) (aN S.1 2) (nI b.1)) 3 1 = P from hr, ck_t hk, pu_s, gI_sa (by omega), gI_sa (by omega), hN, pu_s, nI_1]
  unfold fX6_friendLine_b92
  obtain ⟨-, -, -, ⟨⟨t1, t2, t3, t4, t5, t6⟩, ⟨u1, u2, u3, u4, u5⟩, -⟩, k5, k6, -⟩ := id h4
  refine outC.zz (closeC hP ?_)
  refine putP h4 (S' := (setN (setF S.1 5 (aN S.1 2) (nI b.1)) 2 (aN S.1 2 + 1), upd S.2.1 (25 + aN S.1 2) a.1, S.2.2)) (fun a j y => by rw [gI_sa (by omega), gI_sa (by omega), gI_sa (by omega)]) rfl ⟨⟨?_, ?_, ?_, ?_, ?_, fun b hb => ?_⟩, ⟨fun i hi => ?_, fun i hi => ?_, fun i hi => ?_, fun i hi => ?_, fun i hi => ?_⟩, ruls_mv (h4.2.2.2.1) (fun i => rfl) (fun a j _ _ => by rw [gI_sa (by omega), gI_sa (by omega), gI_sa (by omega)])⟩ ?_ ?_ (((frQ.rf.st (Or.inr (Or.inl (by omega)))).st (Or.inr (Or.inr (by omega)))).st (Or.inr (Or.inr (by omega))))
  · rw [gI_sj (by omega), gI_sa (by omega), gI_sa (by omega)]; exact t1
  · rw [gI_sj (by omega), gI_sa (by omega), gI_sa (by omega)]; exact t2
  · rw [gI_ss]; rfl
  · rw [gI_sa (by omega), gI_sa (by omega), gI_sa (by omega)]; exact t4
  · rw [gI_sa (by omega), gI_sa (by omega), gI_sa (by omega)]; exact t5
  · rw [gI_sa (by omega), gI_sa (by omega), gI_sa (by omega), t6 b hb, aN_N, if_neg (by omega), aN_F]
  · repeat rw [gI_sa (by omega), gI_sa (by omega), gI_sa (by omega)]
    exact u1 i hi
  · rw [gI_sa (by omega), gI_sa (by omega), gI_sa (by omega)]; exact u2 i hi
  · have hi' : i < aN S.1 2 + 1 := hi
    rw [gI_sa (by omega), aF_N, aF_F]
    by_cases ei : i = aN S.1 2
    · subst ei
      rw [gI_ss, if_pos ⟨rfl, rfl⟩]
    · rw [gI_sj ei, gI_sa (by omega), if_neg (fun y => ei y.2)]
      exact u3 i (by omega)
  · repeat rw [gI_sa (by omega), gI_sa (by omega), gI_sa (by omega)]
    exact u4 i hi
  · repeat rw [gI_sa (by omega), gI_sa (by omega), gI_sa (by omega)]
    exact u5 i hi
  · show rC _ 21 = upd S.2.1 (25 + aN S.1 2) a.1
    rw [← k5, ← rC_a4 (M := M4) (k := 21) hn]
    exact rC_21 (fun a j _ _ => by rw [gI_sa (by omega), gI_sa (by omega)])
  · rw [gI_sa (by omega), gI_sa (by omega), gI_sa (by omega)]; exact k6
theorem figC0 {c : Nat → Nat} {L P : Nat} {M0 : Mem} {S : LNS} {q : Nat} {M : Mem} (hP : HP P M0) (h : pC c L P M0 S q M) (hn : aN S.1 3 < 7) : outC c L P M0 (fX6_fighterLine M (P + 8)) (figR c L 0 S q) := by
  unfold fX6_fighterLine figR
  have hp := hP.1
  rw [ck_t hP.k.2.2.2.1]
  refine numC (i := 0) (lo := 0) (hi := 20) hP h (by decide) (by decide) (by decide) fun a M1 _ h1 g1 _ => ?_
  refine numC (i := 1) (lo := 0) (hi := 3) hP h1 (by decide) (by decide) (by decide) fun b M4 _ h4 g4 f4 => ?_
  have v0 : gI M4 26 0 = nI a.1 := by rw [f4 0 (by decide)]; exact g1
  have hN : gI M4 (P + 8) 0 = nI (aN S.1 3) := h4.2.2.2.1.1.2.2.2.1
  rw [pu_s, hN, show (7 : Int32) = nI 7 from rfl, if_pos (by rw [lt_nI (by omega) (by decide)]; exact hn), pu_s, ld26.1, stI_nI hn (by decide), v0]
  rw [pu_s, gI_sa (by omega), hN, ld26.2.1, gI_sa (by omega), g4, stI_nI hn (by decide), pu_s, gI_sa (by omega), gI_sa (by omega), hN, pu_s, nI_1]
  unfold fX6_fighterLine_b72
  obtain ⟨-, -, -, ⟨⟨t1, t2, t3, t4, t5, t6⟩, ⟨u1, u2, u3, u4, u5⟩, -⟩, k5, k6, -⟩ := id h4
  refine outC.zz (closeC hP ?_)
  refine putP h4 (S' := (setN (setF (setF S.1 6 (aN S.1 3) (nI a.1)) 7 (aN S.1 3) (nI b.1)) 3 (aN S.1 3 + 1), S.2.1, S.2.2)) (fun a j y => by rw [gI_sa (by omega), gI_sa (by omega), gI_sa (by omega)]) rfl ⟨⟨?_, ?_, ?_, ?_, ?_, fun b hb => ?_⟩, ⟨fun i hi => ?_, fun i hi => ?_, fun i hi => ?_, fun i hi => ?_, fun i hi => ?_⟩, ruls_mv (h4.2.2.2.1) (fun i => rfl) (fun a j _ _ => by rw [gI_sa (by omega), gI_sa (by omega), gI_sa (by omega)])⟩ ?_ ?_ (((frQ.rf.st (Or.inr (Or.inr (by omega)))).st (Or.inr (Or.inr (by omega)))).st (Or.inr (Or.inr (by omega))))
  · rw [gI_sa (by omega), gI_sa (by omega), gI_sa (by omega)]; exact t1
  · rw [gI_sa (by omega), gI_sa (by omega), gI_sa (by omega)]; exact t2
  · rw [gI_sa (by omega), gI_sa (by omega), gI_sa (by omega)]; exact t3
  · rw [gI_ss]; rfl
  · rw [gI_sa (by omega), gI_sa (by omega), gI_sa (by omega)]; exact t5
  · rw [gI_sa (by omega), gI_sa (by omega), gI_sa (by omega), t6 b hb, aN_N, if_neg (by omega), aN_F, aN_F]
  · repeat rw [gI_sa (by omega), gI_sa (by omega), gI_sa (by omega)]
    exact u1 i hi
  · rw [gI_sa (by omega), gI_sa (by omega), gI_sa (by omega)]; exact u2 i hi
  · rw [gI_sa (by omega), gI_sa (by omega), gI_sa (by omega)]; exact u3 i hi
  · have hi' : i < aN S.1 3 + 1 := hi
    rw [gI_sa (by omega), gI_sa (by omega), aF_N, aF_F, aF_F, aF_N, aF_F, aF_F]
    by_cases ei : i = aN S.1 3
    · subst ei
      rw [gI_ss, gI_sa (by omega), gI_ss]
      exact ⟨by simp, by simp⟩
    · obtain ⟨z1, z2⟩ := u4 i (by omega)
      rw [gI_sj ei, gI_sa (by omega), gI_sj ei, gI_sa (by omega), if_neg (fun y => ei y.2), if_neg (fun y => ei y.2), if_neg (fun y => ei y.2), if_neg (fun y => ei y.2)]
      exact ⟨z1, z2⟩
  · repeat rw [gI_sa (by omega), gI_sa (by omega), gI_sa (by omega)]
    exact u5 i hi
  · rw [← k5]
    exact rC_21 (fun a j _ _ => by rw [gI_sa (by omega), gI_sa (by omega), gI_sa (by omega)])
  · rw [gI_sa (by omega), gI_sa (by omega), gI_sa (by omega)]; exact k6
theorem figC1 {c : Nat → Nat} {L P : Nat} {M0 : Mem} {S : LNS} {q : Nat} {M : Mem} (hP : HP P M0) (h : pC c L P M0 S q M) (hn : aN S.1 4 < 7) : outC c L P M0 (fX6_fighterLine M (P + 11)) (figR c L 1 S q) := by
  unfold fX6_fighterLine figR
  have hp := hP.1
  rw [ck_t hP.k.2.2.2.2.1]
  refine numC (i := 0) (lo := 0) (hi := 20) hP h (by decide) (by decide) (by decide) fun a M1 _ h1 g1 _ => ?_
  refine numC (i := 1) (lo := 0) (hi := 3) hP h1 (by decide) (by decide) (by decide) fun b M4 _ h4 g4 f4 => ?_
  have v0 : gI M4 26 0 = nI a.1 := by rw [f4 0 (by decide)]; exact g1
  have hN : gI M4 (P + 11) 0 = nI (aN S.1 4) := h4.2.2.2.1.1.2.2.2.2.1
  rw [pu_s, hN, show (7 : Int32) = nI 7 from rfl, if_pos (by rw [lt_nI (by omega) (by decide)]; exact hn), pu_s, ld26.1, stI_nI hn (by decide), v0]
  rw [pu_s, gI_sa (by omega), hN, ld26.2.1, gI_sa (by omega), g4, stI_nI hn (by decide), pu_s, gI_sa (by omega), gI_sa (by omega), hN, pu_s, nI_1]
  unfold fX6_fighterLine_b72
  obtain ⟨-, -, -, ⟨⟨t1, t2, t3, t4, t5, t6⟩, ⟨u1, u2, u3, u4, u5⟩, -⟩, k5, k6, -⟩ := id h4
  refine outC.zz (closeC hP ?_)
  refine putP h4 (S' := (setN (setF (setF S.1 8 (aN S.1 4) (nI a.1)) 9 (aN S.1 4) (nI b.1)) 4 (aN S.1 4 + 1), S.2.1, S.2.2)) (fun a j y => by rw [gI_sa (by omega), gI_sa (by omega), gI_sa (by omega)]) rfl ⟨⟨?_, ?_, ?_, ?_, ?_, fun b hb => ?_⟩, ⟨fun i hi => ?_, fun i hi => ?_, fun i hi => ?_, fun i hi => ?_, fun i hi => ?_⟩, ruls_mv (h4.2.2.2.1) (fun i => rfl) (fun a j _ _ => by rw [gI_sa (by omega), gI_sa (by omega), gI_sa (by omega)])⟩ ?_ ?_ (((frQ.rf.st (Or.inr (Or.inr (by omega)))).st (Or.inr (Or.inr (by omega)))).st (Or.inr (Or.inr (by omega))))
  · rw [gI_sa (by omega), gI_sa (by omega), gI_sa (by omega)]; exact t1
  · rw [gI_sa (by omega), gI_sa (by omega), gI_sa (by omega)]; exact t2
  · rw [gI_sa (by omega), gI_sa (by omega), gI_sa (by omega)]; exact t3
  · rw [gI_sa (by omega), gI_sa (by omega), gI_sa (by omega)]; exact t4
  · rw [gI_ss]; rfl
  · rw [gI_sa (by omega), gI_sa (by omega), gI_sa (by omega), t6 b hb, aN_N, if_neg (by omega), aN_F, aN_F]
  · repeat rw [gI_sa (by omega), gI_sa (by omega), gI_sa (by omega)]
    exact u1 i hi
  · rw [gI_sa (by omega), gI_sa (by omega), gI_sa (by omega)]; exact u2 i hi
  · rw [gI_sa (by omega), gI_sa (by omega), gI_sa (by omega)]; exact u3 i hi
  · repeat rw [gI_sa (by omega), gI_sa (by omega), gI_sa (by omega)]
    exact u4 i hi
  · have hi' : i < aN S.1 4 + 1 := hi
    rw [gI_sa (by omega), gI_sa (by omega), aF_N, aF_F, aF_F, aF_N, aF_F, aF_F]
    by_cases ei : i = aN S.1 4
    · subst ei
      rw [gI_ss, gI_sa (by omega), gI_ss]
      exact ⟨by simp, by simp⟩
    · obtain ⟨z1, z2⟩ := u5 i (by omega)
      rw [gI_sj ei, gI_sa (by omega), gI_sj ei, gI_sa (by omega), if_neg (fun y => ei y.2), if_neg (fun y => ei y.2), if_neg (fun y => ei y.2), if_neg (fun y => ei y.2)]
      exact ⟨z1, z2⟩
  · rw [← k5]
    exact rC_21 (fun a j _ _ => by rw [gI_sa (by omega), gI_sa (by omega), gI_sa (by omega)])
  · rw [gI_sa (by omega), gI_sa (by omega), gI_sa (by omega)]; exact k6
