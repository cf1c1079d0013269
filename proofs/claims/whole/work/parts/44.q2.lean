/-! QUESTIONS: deed, way, brother -/
theorem out_ne {x : Int32} {n : Nat} (hx : x < 0 ∨ nI n < x) (hn : n < 2 ^ 31) (k : Nat) (hk : k ≤ n) : ¬ x = nI k := by
  intro e
  subst e
  rcases hx with q | q
  · exact nI_pos (by omega) q
  · rw [lt_nI hn (by omega)] at q; omega
theorem deed_q {A : LA} {M : Mem} (h : Rel A M) (x y : Int32) : qR (fX12_deed M x y) (fun M1 => fX13_deed M1 x y) M := by
  have h7 : aN A 0 ≤ 7 := h.1.1
  by_cases hx : x < 0 ∨ ¬ x < nI (aN A 0)
  · refine ⟨.error 1, ?_, fun M1 f => ?_⟩
    · unfold fX12_deed
      rw [needDeed_eq h.2.1, if_pos hx, bE_er]
    · show simM (fX13_deed M1 _ _) M1 _
      unfold fX13_deed
      rw [pu_s, isDeed_eq (m0L (h.ro f).2.2.1) m00, if_pos hx, b2_s, if_pos rfl]
      exact sM_er M0_ro
  · have hm : ∀ M1, RO M M1 → (pu (sI M1 103 0 0) fun Mq1 => fX13_isDeed Mq1 x) = some (1, sI M1 103 0 0) := fun M1 f => by
      rw [pu_s, isDeed_eq (m0L (h.ro f).2.2.1) m00, if_neg hx]
    obtain ⟨d, hd, e⟩ := in_of hx (by omega)
    by_cases hy : y < 0 ∨ (4 : Int32) < y
    · have hne := out_ne (n := 4) hy (by decide)
      refine ⟨.error 1, ?_, fun M1 f => ?_⟩
      · unfold fX12_deed
        rw [needDeed_eq h.2.1, if_neg hx, bE_ok, pu_s, ck_t h.2.1.1, if_neg (show ¬ y = 0 from hne 0 (by decide)), if_neg (show ¬ y = 1 from hne 1 (by decide)), if_neg (show ¬ y = 2 from hne 2 (by decide)), if_neg (show ¬ y = 3 from hne 3 (by decide)), if_neg (show ¬ y = 4 from hne 4 (by decide))]
      · show simM (fX13_deed M1 _ _) M1 _
        unfold fX13_deed
        rw [pu_s, isDeed_eq (m0L (h.ro f).2.2.1) m00, if_neg hx, b2_s, if_neg (by decide), isWhat_eq m00, if_pos hy, b2_s, if_pos rfl]
        exact sM_er M0_ro
    · obtain ⟨k, hk, ek⟩ := lt_of (n := 4) hy (by decide)
      have hc : fX12_needDeed M x = some (.ok ()) := by rw [needDeed_eq h.2.1, if_neg hx]
      have hb : ∀ (M1 : Mem) (k9 : Mem → Option (Int32 × Mem)), RO M M1 → (b2 (pu (sI M1 103 0 0) fun Mq1 => fX13_isDeed Mq1 x) fun vq2 Mq3 => if vq2 = 0 then some (0, Mq3) else b2 (fX13_isWhat Mq3 y 4) fun vq4 Mq5 => if vq4 = 0 then some (0, Mq5) else k9 Mq5) = k9 (sI M1 103 0 0) := fun M1 k9 f => by
        rw [hm M1 f, b2_s, if_neg (by decide), isWhat_eq m00, if_neg hy, b2_s, if_neg (by decide)]
      obtain ⟨e1, e2, e3, e4⟩ := h.2.1.2.2.2.2.2.2.2.2.1 d hd
      subst e
      subst ek
      rcases (show k = 0 ∨ k = 1 ∨ k = 2 ∨ k = 3 ∨ k = 4 by omega) with q | q | q | q | q <;> subst q
      · refine ⟨.ok (aF A 0 d), ?_, fun M1 f => ?_⟩
        · rw [show fX12_deed M (nI d) (nI 0) = bE (fX12_needDeed M (nI d)) fun _ => ck (kd (gR M 28 0) = 4) (ldI M (gR M 28 0 + 1) 7 (nI d) fun v => some (.ok v)) from rfl, hc, bE_ok, ck_t h.2.1.1, ldI_nI (by omega) (by decide), e1]
        · show simM (fX13_deed M1 _ _) M1 _
          rw [show fX13_deed M1 (nI d) (nI 0) = _ from hb M1 (fun Mq5 => ldI Mq5 104 7 (nI d) fun v => some (v, Mq5)) f, ldI_nI (by omega) (by decide), gI_sa (by decide), ((h.ro f).2.2.1.2.2.2.2.2.2.2.1 d hd).1]
          exact sM_ok M0_ro m00
      · refine ⟨.ok (aF A 1 d), ?_, fun M1 f => ?_⟩
        · rw [show fX12_deed M (nI d) (nI 1) = bE (fX12_needDeed M (nI d)) fun _ => ck (kd (gR M 28 0) = 4) (ldI M (gR M 28 0 + 2) 7 (nI d) fun v => some (.ok v)) from rfl, hc, bE_ok, ck_t h.2.1.1, ldI_nI (by omega) (by decide), e2]
        · show simM (fX13_deed M1 _ _) M1 _
          rw [show fX13_deed M1 (nI d) (nI 1) = _ from hb M1 (fun Mq5 => ldI Mq5 105 7 (nI d) fun v => some (v, Mq5)) f, ldI_nI (by omega) (by decide), gI_sa (by decide), ((h.ro f).2.2.1.2.2.2.2.2.2.2.1 d hd).2.1]
          exact sM_ok M0_ro m00
      · refine ⟨.ok (aF A 2 d), ?_, fun M1 f => ?_⟩
        · rw [show fX12_deed M (nI d) (nI 2) = bE (fX12_needDeed M (nI d)) fun _ => ck (kd (gR M 28 0) = 4) (ldI M (gR M 28 0 + 3) 7 (nI d) fun v => some (.ok v)) from rfl, hc, bE_ok, ck_t h.2.1.1, ldI_nI (by omega) (by decide), e3]
        · show simM (fX13_deed M1 _ _) M1 _
          rw [show fX13_deed M1 (nI d) (nI 2) = _ from hb M1 (fun Mq5 => ldI Mq5 106 7 (nI d) fun v => some (v, Mq5)) f, ldI_nI (by omega) (by decide), gI_sa (by decide), ((h.ro f).2.2.1.2.2.2.2.2.2.2.1 d hd).2.2.1]
          exact sM_ok M0_ro m00
      · refine ⟨.ok (aF A 3 d), ?_, fun M1 f => ?_⟩
        · rw [show fX12_deed M (nI d) (nI 3) = bE (fX12_needDeed M (nI d)) fun _ => ck (kd (gR M 28 0) = 4) (ldI M (gR M 28 0 + 4) 7 (nI d) fun v => some (.ok v)) from rfl, hc, bE_ok, ck_t h.2.1.1, ldI_nI (by omega) (by decide), e4]
        · show simM (fX13_deed M1 _ _) M1 _
          rw [show fX13_deed M1 (nI d) (nI 3) = _ from hb M1 (fun Mq5 => ldI Mq5 107 7 (nI d) fun v => some (v, Mq5)) f, ldI_nI (by omega) (by decide), gI_sa (by decide), ((h.ro f).2.2.1.2.2.2.2.2.2.2.1 d hd).2.2.2]
          exact sM_ok M0_ro m00
      · refine ⟨.ok (if rB M 0 0 < aF A 0 d then 0 else 1), ?_, fun M1 f => ?_⟩
        · rw [show fX12_deed M (nI d) (nI 4) = bE (fX12_needDeed M (nI d)) fun _ => ck (kd (gR M 28 0) = 4) (ldI M (gR M 28 0 + 1) 7 (nI d) fun v => pu (gI M 81 0) fun u => if u < v then some (.ok 0) else some (.ok 1)) from rfl, hc, bE_ok, ck_t h.2.1.1, ldI_nI (by omega) (by decide), e1, pu_s, gC_f (by decide), rC81 h]
          split <;> rfl
        · show simM (fX13_deed M1 _ _) M1 _
          rw [show fX13_deed M1 (nI d) (nI 4) = _ from hb M1 (fun Mq5 => ldI Mq5 104 7 (nI d) fun v => ldI Mq5 133 186 0 fun u => if u < v then some (0, Mq5) else some (1, Mq5)) f, ldI_nI (by omega) (by decide), gI_sa (by decide), ((h.ro f).2.2.1.2.2.2.2.2.2.2.1 d hd).1, show (0 : Int32) = nI 0 from rfl, ldI_nI (by decide) (by decide), gI_sa (by decide), gB0 (by decide), f.rB]
          split
          · exact sM_ok M0_ro m00
          · exact sM_ok M0_ro m00
theorem wayLen {A : LA} {M : Mem} (hL : LandC A M) {b : Nat} (hb : b < 2) : gI M (gR M 28 0 + 5) b = nI (aN A (5 + b)) := by
  rcases (show b = 0 ∨ b = 1 by omega) with e | e <;> subst e
  · exact hL.2.2.2.2.2.2.1
  · exact hL.2.2.2.2.2.2.2.1
theorem wayLenM {A : LA} {M : Mem} (hL : LandM A M) {b : Nat} (hb : b < 2) : gI M 108 b = nI (aN A (5 + b)) := by
  rcases (show b = 0 ∨ b = 1 by omega) with e | e <;> subst e
  · exact hL.2.2.2.2.2.1
  · exact hL.2.2.2.2.2.2.1
theorem wayLe {A : LA} (hA : okA A) {b : Nat} (hb : b < 2) : aN A (5 + b) ≤ 6 := by
  rcases (show b = 0 ∨ b = 1 by omega) with e | e <;> subst e
  · exact hA.2.2.2.2.2.1
  · exact hA.2.2.2.2.2.2.1
theorem hasPlace_eq {A : LA} {M : Mem} (hL : LandC A M) {b : Nat} (hb : b < 2) (i : Int32) : fX12_hasPlace M (nI b) i = some (if i < 0 ∨ ¬ i < nI (aN A (5 + b)) then 0 else 1) := by
  unfold fX12_hasPlace
  simp only [pu_s, ck_t hL.1]
  rw [ldI_nI hb (by decide), wayLen hL hb]
  by_cases h1 : i < 0
  · rw [if_pos h1, if_pos (Or.inl h1)]
  · rw [if_neg h1]
    by_cases h2 : i < nI (aN A (5 + b))
    · rw [if_pos h2, if_neg (by rintro (q | q); exact h1 q; exact q h2)]
    · rw [if_neg h2, if_pos (Or.inr h2)]
theorem way_q {A : LA} {M : Mem} (h : Rel A M) (x y : Int32) : qR (fX12_way M x y) (fun M1 => fX13_way M1 x y) M := by
  by_cases hx : x = 0 ∨ x = 1
  · obtain ⟨b, hb, e⟩ := bro_of hx
    have h6 := wayLe h.1 hb
    by_cases hy : y < 0 ∨ ¬ y < nI (aN A (5 + b))
    · refine ⟨.error 1, ?_, fun M1 f => ?_⟩
      · unfold fX12_way
        rw [needBrother_eq, if_pos hx, bE_ok, e, hasPlace_eq h.2.1 hb, if_pos hy, b1_s, if_pos rfl]
      · show simM (fX13_way M1 _ _) M1 _
        unfold fX13_way
        rw [pu_s, isBrother_eq m00, if_pos hx, b2_s, if_neg (by decide)]
        have key : fX13_way_b32 (sI M1 103 0 0) x y = some (0, sI (sI M1 103 0 0) 103 0 (nI 1)) := by
          unfold fX13_way_b32 fX13_way_b33
          rw [right_eq m00 _ _ (by decide), if_pos rfl, b2_s, if_pos rfl]
          rfl
        by_cases h1 : y < 0
        · rw [if_pos h1, key]
          exact sM_er M0_ro
        · rw [if_neg h1, e, ldI_nI hb (by decide), wayLenM (m0L (h.ro f).2.2.1) hb, if_neg (hy.resolve_left h1), ← e, key]
          exact sM_er M0_ro
    · obtain ⟨i, hi, ei⟩ := in_of hy (by omega)
      refine ⟨.ok (rB M 0 (13 + 6 * b + i)), ?_, fun M1 f => ?_⟩
      · unfold fX12_way
        rw [needBrother_eq, if_pos hx, bE_ok, e, hasPlace_eq h.2.1 hb, if_neg hy, b1_s, if_neg (by decide), ei, show (6 : Int32) = nI 6 from rfl, pk_mul, nI_add, ldI_nI (by omega) (by decide), show (84 : Nat) = 81 + 3 from rfl, gC_a3 (by omega), rC81 h, show 13 + (b * 6 + i) = 13 + 6 * b + i by omega]
      · show simM (fX13_way M1 _ _) M1 _
        unfold fX13_way fX13_way_b33
        rw [pu_s, isBrother_eq m00, if_pos hx, b2_s, if_neg (by decide), if_neg (fun q => hy (Or.inl q)), e, ldI_nI hb (by decide), wayLenM (m0L (h.ro f).2.2.1) hb, if_pos (Decidable.byContradiction fun q => hy (Or.inr q)), right_eq m00 _ _ (by decide), if_neg (by decide), b2_s, if_neg (by decide), ei]
        rw [show (13 : Int32) = nI 13 from rfl, show (6 : Int32) = nI 6 from rfl, pk_mul, nI_add, nI_add, ldI_nI (by omega) (by decide), gI_sa (by decide), gB0 (by omega), f.rB]
        exact sM_ok M0_ro m00
  · refine ⟨.error 1, ?_, fun M1 f => ?_⟩
    · unfold fX12_way
      rw [needBrother_eq, if_neg hx, bE_er]
    · show simM (fX13_way M1 _ _) M1 _
      unfold fX13_way
      rw [pu_s, isBrother_eq m00, if_neg hx, b2_s, if_pos rfl]
      exact sM_er M0_ro
