/-! TEXTS: each line as the class reads it -/
theorem ld26 {M : Mem} {K : Int32 → Option (Int32 × Mem)} : ldI M 26 4 0 K = K (gI M 26 0) ∧ ldI M 26 4 1 K = K (gI M 26 1) ∧ ldI M 26 4 2 K = K (gI M 26 2) ∧ ldI M 26 4 3 K = K (gI M 26 3) :=
  ⟨ldI_nI (i := 0) (by decide) (by decide), ldI_nI (i := 1) (by decide) (by decide), ldI_nI (i := 2) (by decide) (by decide), ldI_nI (i := 3) (by decide) (by decide)⟩
theorem putP {c : Nat → Nat} {L P : Nat} {M0 : Mem} {S S' : LNS} {q : Nat} {M M' : Mem} (h : pC c L P M0 S q M) (f : ∀ a j, a = 1 ∨ a = 27 → gI M' a j = gI M a j) (fr : gR M' 27 6 = gR M 27 6) (hl : landQ P S'.1 q M') (hr : rC M' 21 = S'.2.1) (hm : gI M' 3 5 = nI S'.2.2) (hf : frQ P M M') : pC c L P M0 S' q M' := by
  obtain ⟨a1, a2, a3, a4, a5, a6, a7⟩ := h
  exact ⟨⟨a1.1, fun j hj => ⟨(a1.2 j hj).1, by rw [f _ _ (Or.inl rfl)]; exact (a1.2 j hj).2⟩⟩, ⟨by rw [f _ _ (Or.inr rfl)]; exact a2.1, by rw [f _ _ (Or.inr rfl)]; exact a2.2.1, by rw [f _ _ (Or.inr rfl)]; exact a2.2.2.1, by rw [f _ _ (Or.inr rfl)]; exact a2.2.2.2.1, by rw [f _ _ (Or.inr rfl)]; exact a2.2.2.2.2.1, fr.trans a2.2.2.2.2.2⟩, a3, hl, hr, hm, a7.tr hf⟩
theorem cityC {c : Nat → Nat} {L P : Nat} {M0 : Mem} {S : LNS} {q : Nat} {M : Mem} (hP : HP P M0) (h : pC c L P M0 S q M) : outC c L P M0 (fX6_cityLine M) (cityR c L S q) := by
  unfold fX6_cityLine cityR
  refine numC (i := 0) (lo := 0) (hi := 999) hP h (by decide) (by decide) (by decide) fun a M1 _ h1 g1 _ => ?_
  refine numC (i := 1) (lo := 0) (hi := 99) hP h1 (by decide) (by decide) (by decide) fun b M2 _ h2 g2 f2 => ?_
  refine numC (i := 2) (lo := 0) (hi := 999) hP h2 (by decide) (by decide) (by decide) fun d M3 _ h3 g3 f3 => ?_
  have v0 : gI M3 26 0 = nI a.1 := by rw [f3 0 (by decide), f2 0 (by decide)]; exact g1
  have v1 : gI M3 26 1 = nI b.1 := by rw [f3 1 (by decide)]; exact g2
  rw [ld26.1, pu_s, ld26.2.1, pu_s, ld26.2.2.1, pu_s, gI_sa (by decide), gI_sa (by decide), gI_sa (by decide), v0, v1, g3]
  have := hP.1
  refine outC.zz (closeC hP ?_)
  refine putP h3 (S' := (S.1, upd (upd (upd S.2.1 0 (nI a.1)) 1 (nI b.1)) 2 (nI d.1), S.2.2)) (fun a j y => by rw [gI_sa (by omega), gI_sa (by omega), gI_sa (by omega)]) rfl (h3.2.2.2.1.mv (Nat.le_refl _) fun a j _ _ => by rw [gI_sa (by omega), gI_sa (by omega), gI_sa (by omega)]) ?_ ?_ (((frQ.rf.st (Or.inr (Or.inl (by omega)))).st (Or.inr (Or.inl (by omega)))).st (Or.inr (Or.inl (by omega))))
  · rw [rC_f (by decide), rC_f (by decide), rC_f (by decide), h3.2.2.2.2.1]
  · rw [gI_sa (by decide), gI_sa (by decide), gI_sa (by decide)]; exact h3.2.2.2.2.2.1
theorem termC {c : Nat → Nat} {L P : Nat} {M0 : Mem} {S : LNS} {q : Nat} {M : Mem} (hP : HP P M0) (h : pC c L P M0 S q M) : outC c L P M0 (fX6_termLine M) (termLR c L S q) := by
  unfold fX6_termLine termLR
  refine numC (i := 0) (lo := 1) (hi := 5) hP h (by decide) (by decide) (by decide) fun a M1 _ h1 g1 _ => ?_
  rw [ld26.1, pu_s, g1]
  have := hP.1
  refine outC.zz (closeC hP ?_)
  refine putP h1 (S' := (S.1, upd S.2.1 12 (nI a.1), S.2.2)) (fun a j y => by rw [gI_sa (by omega)]) rfl (h1.2.2.2.1.mv (Nat.le_refl _) fun a j _ _ => by rw [gI_sa (by omega)]) ?_ ?_ (frQ.rf.st (Or.inr (Or.inl (by omega))))
  · rw [rC_f8, h1.2.2.2.2.1]
  · rw [gI_sa (by decide)]; exact h1.2.2.2.2.2.1
theorem deedC {c : Nat → Nat} {L P : Nat} {M0 : Mem} {S : LNS} {q : Nat} {M : Mem} (hP : HP P M0) (h : pC c L P M0 S q M) (hn : aN S.1 0 < 7) : outC c L P M0 (fX6_deedLine M) (deedR c L S q) := by
  unfold fX6_deedLine deedR
  refine numC (i := 0) (lo := 0) (hi := 99) hP h (by decide) (by decide) (by decide) fun a M1 _ h1 g1 _ => ?_
  refine sgnC (i := 1) (m := 20) hP h1 (by decide) (by decide) (by decide) fun b M2 _ h2 g2 f2 => ?_
  refine sgnC (i := 2) (m := 99) hP h2 (by decide) (by decide) (by decide) fun d M3 _ h3 g3 f3 => ?_
  refine sgnC (i := 3) (m := 20) hP h3 (by decide) (by decide) (by decide) fun e M4 _ h4 g4 f4 => ?_
  have v0 : gI M4 26 0 = nI a.1 := by rw [f4 0 (by decide), f3 0 (by decide), f2 0 (by decide)]; exact g1
  have v1 : gI M4 26 1 = b.1 := by rw [f4 1 (by decide), f3 1 (by decide)]; exact g2
  have v2 : gI M4 26 2 = d.1 := by rw [f4 2 (by decide)]; exact g3
  have hp := hP.1
  have hk := hP.k.1
  have hr : gR M4 3 1 = P := h4.gR hP
  have hN : gI M4 P 0 = nI (aN S.1 0) := h4.2.2.2.1.1.1
  have hw : ∀ (N : Mem) (K : Int32 → Option (Int32 × Mem)), gR N 3 1 = P → (pu (gR N 3 1) fun oq => ck (kd oq = 4) <| pu (gI N oq 0) K) = K (gI N P 0) := fun N K e => by rw [pu_s, e, ck_t hk, pu_s]
  have hw2 : ∀ (N : Mem) (K : Nat → Int32 → Option (Int32 × Mem)), gR N 3 1 = P → (pu (gR N 3 1) fun oq => ck (kd oq = 4) <| pu (gR N 3 1) fun oq2 => ck (kd oq2 = 4) <| pu (gI N oq2 0) (K oq)) = K P (gI N P 0) := fun N K e => by rw [pu_s, e, ck_t hk, pu_s, ck_t hk, pu_s]
  rw [hw M4 _ hr, hN, show (7 : Int32) = nI 7 from rfl, if_pos (by rw [lt_nI (by omega) (by decide)]; exact hn)]
  rw [hw2 M4 (fun oq13 vq15 => _) hr, ld26.1, hN, stI_nI hn (by decide), v0]
  rw [hw2 (sI M4 (P + 1) (aN S.1 0) (nI a.1)) (fun oq13 vq15 => _) hr, ld26.2.1, gI_sa (by omega), gI_sa (by omega), hN, v1, stI_nI hn (by decide)]
  rw [hw2 (sI (sI M4 (P + 1) (aN S.1 0) (nI a.1)) (P + 2) (aN S.1 0) b.1) (fun oq13 vq15 => _) hr, ld26.2.2.1, gI_sa (by omega), gI_sa (by omega), gI_sa (by omega), gI_sa (by omega), hN, v2, stI_nI hn (by decide)]
  rw [hw2 (sI (sI (sI M4 (P + 1) (aN S.1 0) (nI a.1)) (P + 2) (aN S.1 0) b.1) (P + 3) (aN S.1 0) d.1) (fun oq13 vq15 => _) hr, ld26.2.2.2, gI_sa (by omega), gI_sa (by omega), gI_sa (by omega), gI_sa (by omega), gI_sa (by omega), gI_sa (by omega), hN, g4, stI_nI hn (by decide)]
  rw [pu_s, show gR (sI (sI (sI (sI M4 (P + 1) (aN S.1 0) (nI a.1)) (P + 2) (aN S.1 0) b.1) (P + 3) (aN S.1 0) d.1) (P + 4) (aN S.1 0) e.1) 3 1 = P from hr, ck_t hk, pu_s, pu_s, gI_sa (by omega), gI_sa (by omega), gI_sa (by omega), gI_sa (by omega), hN, nI_1]
  unfold fX6_deedLine_b158
  obtain ⟨-, -, -, ⟨⟨t1, t2, t3, t4, t5, t6⟩, ⟨u1, u2, u3, u4, u5⟩, ⟨w1, w2, w3, w4⟩⟩, k5, k6, -⟩ := id h4
  refine outC.zz (closeC hP ?_)
  refine putP h4 (S' := (deedA S.1 (nI a.1) b.1 d.1 e.1, S.2.1, S.2.2)) (fun a j y => ?_) rfl ⟨⟨?_, ?_, ?_, ?_, ?_, fun b hb => ?_⟩, ⟨fun i hi => ?_, fun i hi => ?_, fun i hi => ?_, fun i hi => ?_, fun i hi => ?_⟩, ?_, ?_, ?_, ?_⟩ ?_ ?_ (((((frQ.rf.st (Or.inr (Or.inr (by omega)))).st (Or.inr (Or.inr (by omega)))).st (Or.inr (Or.inr (by omega)))).st (Or.inr (Or.inr (by omega)))).st (Or.inr (Or.inr (by omega))))
  · rw [gI_sa (by omega), gI_sa (by omega), gI_sa (by omega), gI_sa (by omega), gI_sa (by omega)]
  · rw [gI_ss]; rfl
  · rw [gI_sj (by omega), gI_sa (by omega), gI_sa (by omega), gI_sa (by omega), gI_sa (by omega)]; exact t2
  · rw [gI_sj (by omega), gI_sa (by omega), gI_sa (by omega), gI_sa (by omega), gI_sa (by omega)]; exact t3
  · rw [gI_sa (by omega), gI_sa (by omega), gI_sa (by omega), gI_sa (by omega), gI_sa (by omega)]; exact t4
  · rw [gI_sa (by omega), gI_sa (by omega), gI_sa (by omega), gI_sa (by omega), gI_sa (by omega)]; exact t5
  · rw [gI_sa (by omega), gI_sa (by omega), gI_sa (by omega), gI_sa (by omega), gI_sa (by omega), t6 b hb]
    unfold deedA
    simp only [aN_N, aN_F]
    rw [if_neg (by omega)]
  · have hi' : i < aN S.1 0 + 1 := hi
    unfold deedA
    simp only [aF_N, aF_F]
    by_cases ei : i = aN S.1 0
    · subst ei
      simp [gI_sI]
    · obtain ⟨z1, z2, z3, z4⟩ := u1 i (by omega)
      simp [gI_sI, ei, z1, z2, z3, z4]
  · rw [gI_sa (by omega), gI_sa (by omega), gI_sa (by omega), gI_sa (by omega), gI_sa (by omega)]; exact u2 i hi
  · rw [gI_sa (by omega), gI_sa (by omega), gI_sa (by omega), gI_sa (by omega), gI_sa (by omega)]; exact u3 i hi
  · repeat rw [gI_sa (by omega), gI_sa (by omega), gI_sa (by omega), gI_sa (by omega), gI_sa (by omega)]
    exact u4 i hi
  · repeat rw [gI_sa (by omega), gI_sa (by omega), gI_sa (by omega), gI_sa (by omega), gI_sa (by omega)]
    exact u5 i hi
  · exact w1.mv (Nat.le_refl _) (by rw [gI_sa (by omega), gI_sa (by omega), gI_sa (by omega), gI_sa (by omega), gI_sa (by omega)]) (by rw [gI_sa (by omega), gI_sa (by omega), gI_sa (by omega), gI_sa (by omega), gI_sa (by omega)]) (fun i _ => by rw [gI_sa (by omega), gI_sa (by omega), gI_sa (by omega), gI_sa (by omega), gI_sa (by omega)])
  · exact w2.mv (Nat.le_refl _) (by rw [gI_sa (by omega), gI_sa (by omega), gI_sa (by omega), gI_sa (by omega), gI_sa (by omega)]) (by rw [gI_sa (by omega), gI_sa (by omega), gI_sa (by omega), gI_sa (by omega), gI_sa (by omega)]) (fun i _ => by rw [gI_sa (by omega), gI_sa (by omega), gI_sa (by omega), gI_sa (by omega), gI_sa (by omega)])
  · rw [gI_sa (by omega), gI_sa (by omega), gI_sa (by omega), gI_sa (by omega), gI_sa (by omega)]; exact w3
  · rw [gI_sa (by omega), gI_sa (by omega), gI_sa (by omega), gI_sa (by omega), gI_sa (by omega)]; exact w4
  · rw [← k5]
    funext j
    unfold rC
    by_cases hj : j < 31
    · have := pl_4 j hj
      rw [if_pos hj, if_pos hj, gI_sa (by omega), gI_sa (by omega), gI_sa (by omega), gI_sa (by omega), gI_sa (by omega)]
    · rw [if_neg hj, if_neg hj]
  · rw [gI_sa (by omega), gI_sa (by omega), gI_sa (by omega), gI_sa (by omega), gI_sa (by omega)]; exact k6
