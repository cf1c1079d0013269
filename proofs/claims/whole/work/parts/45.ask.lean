/-! QUESTIONS of the years to come: what they stand on -/
theorem gW_eq {M : Mem} {y n : Int32} {k : Mem → Option (Int32 × Mem)} (h : gI M 103 0 = 0) : (b2 (fX13_isWhat M y n) fun v M' => if v = 0 then some (0, M') else k M') = if y < 0 ∨ n < y then some (0, sI M 103 0 1) else k M := by
  rw [isWhat_eq h]
  by_cases hb : y < 0 ∨ n < y
  · rw [if_pos hb, if_pos hb, b2_s, if_pos rfl]
  · rw [if_neg hb, if_neg hb, b2_s, if_neg (by decide)]
theorem gT_eq {M : Mem} {y lo hi e : Int32} {k : Mem → Option (Int32 × Mem)} (h : gI M 103 0 = 0) (he : e ≠ 0) : (b1 (fX13_within y lo hi) fun v => b2 (fX13_right M v e) fun v2 M' => if v2 = 0 then some (0, M') else k M') = if y < lo ∨ hi < y then some (0, sI M 103 0 e) else k M := by
  rw [within_eq, b1_s, right_eq h _ _ he]
  by_cases hb : y < lo ∨ hi < y
  · rw [if_pos hb, if_pos rfl, if_pos hb, b2_s, if_pos rfl]
  · rw [if_neg hb, if_neg (by decide), if_neg hb, b2_s, if_neg (by decide)]
theorem gB_eq {M : Mem} {x : Int32} {k : Mem → Option (Int32 × Mem)} (h : gI M 103 0 = 0) : (b2 (fX13_isBrother M x) fun v M' => if v = 0 then some (0, M') else k M') = if x = 0 ∨ x = 1 then k M else some (0, sI M 103 0 1) := by
  rw [isBrother_eq h]
  by_cases hb : x = 0 ∨ x = 1
  · rw [if_pos hb, if_pos hb, b2_s, if_neg (by decide)]
  · rw [if_neg hb, if_neg hb, b2_s, if_pos rfl]
theorem gD_eq {A : LA} {M : Mem} {x : Int32} {k : Mem → Option (Int32 × Mem)} (hL : LandM A M) (h : gI M 103 0 = 0) : (b2 (fX13_isDeed M x) fun v M' => if v = 0 then some (0, M') else k M') = if x < 0 ∨ ¬ x < nI (aN A 0) then some (0, sI M 103 0 1) else k M := by
  rw [isDeed_eq hL h]
  by_cases hb : x < 0 ∨ ¬ x < nI (aN A 0)
  · rw [if_pos hb, if_pos hb, b2_s, if_pos rfl]
  · rw [if_neg hb, if_neg hb, b2_s, if_neg (by decide)]
theorem gF_eq {A : LA} {M : Mem} {x : Int32} {k : Mem → Option (Int32 × Mem)} (hL : LandM A M) (h : gI M 103 0 = 0) : (b2 (fX13_isFriend M x) fun v M' => if v = 0 then some (0, M') else k M') = if x < 0 ∨ ¬ x < nI (aN A 2) then some (0, sI M 103 0 1) else k M := by
  rw [isFriend_eq hL h]
  by_cases hb : x < 0 ∨ ¬ x < nI (aN A 2)
  · rw [if_pos hb, if_pos hb, b2_s, if_pos rfl]
  · rw [if_neg hb, if_neg hb, b2_s, if_neg (by decide)]
/-- the work row of the class, of the reference, in a question asked at M -/
def cW (A : LA) (M : Mem) (r : Nat → Int32) (M1 : Mem) : Prop := RO M M1 ∧ LandC A M1 ∧ rC M1 86 = r ∧ rC M1 81 = rB M 0
def mW (A : LA) (M : Mem) (r : Nat → Int32) (M1 : Mem) : Prop := RO M M1 ∧ LandM A M1 ∧ rB M1 31 = r ∧ rB M1 0 = rB M 0 ∧ gI M1 103 0 = 0
theorem Rel.okR {A : LA} {M : Mem} (h : Rel A M) : okR A 999 19980 (rB M 0) := by
  obtain ⟨y, hy, e, hr⟩ := h.2.2.2.2.1
  exact okR_mono hr hy (by omega)
theorem c_start {A : LA} {M M0 : Mem} (h : Rel A M) (f : RO M M0) : ∃ M1, fX3_become M0 86 81 = some M1 ∧ cW A M (rB M 0) M1 := by
  obtain ⟨M1, h1, h2, h3⟩ := become_ok (M := M0) (x := 86) (y := 81) (by decide) (by decide) (by decide)
  have h0 := h.ro f
  refine ⟨M1, h1, f.tr (h3.RO (Or.inr rfl)), h0.2.1.fr (by decide) h3, ?_, ?_⟩
  · rw [h2, rC81 h0, f.rB]
  · rw [rC_fr h3 (by decide) (by decide), rC81 h0, f.rB]
theorem c_pass {A : LA} {M M1 : Mem} {r : Nat → Int32} {Y Z n : Nat} (hA : okA A) (h : cW A M r M1) (hR : okR A Y Z r) (hY : Y < 10 ^ 6) (hZ : Z < 10 ^ 6) (hn : n < 10 ^ 4) : ∃ M2, fX7_passMany M1 86 (nI n) = some M2 ∧ cW A M (yearsR A r n) M2 := by
  obtain ⟨f, hL, e, e81⟩ := h
  obtain ⟨M2, h1, h2, h3⟩ := pass_ok (k := 86) (N := n) hL hA (by decide) hn (by rw [e]; exact hR) hY hZ
  exact ⟨M2, h1, f.tr (h3.RO (Or.inr rfl)), hL.fr (by decide) h3, by rw [h2, e], by rw [rC_fr h3 (by decide) (by decide), e81]⟩
theorem c_alone {A : LA} {M M1 : Mem} {r : Nat → Int32} {Y Z : Nat} (hA : okA A) (h : cW A M r M1) (hR : okR A Y Z r) (hY : Y < 10 ^ 6) (hZ : Z < 10 ^ 6) : ∃ M2, fX7_passAlone M1 86 = some M2 ∧ cW A M (aloneR A r) M2 := by
  obtain ⟨f, hL, e, e81⟩ := h
  obtain ⟨M2, h1, h2, h3⟩ := alone_ok (k := 86) hL hA (by decide) (by rw [e]; exact hR) (by omega) (by omega)
  exact ⟨M2, h1, f.tr (h3.RO (Or.inr rfl)), hL.fr (by decide) h3, by rw [h2, e], by rw [rC_fr h3 (by decide) (by decide), e81]⟩
theorem m_start {A : LA} {M M0 : Mem} (h : Rel A M) (f : RO M M0) (h0 : gI M0 103 0 = 0) : ∃ M1, fX13_lays0 M0 0 31 = some M1 ∧ mW A M (rB M 0) M1 := by
  obtain ⟨M1, h1, h2, h3⟩ := lays0_ok (b := 0) (c := 31) (M := M0) (by decide) (by decide) (by decide)
  refine ⟨M1, h1, f.tr (h3.RO (by decide)), (h.ro f).2.2.1.fr h3, ?_, ?_, ?_⟩
  · rw [h2, f.rB]
  · rw [rB_fr h3 (by decide), f.rB]
  · rw [h3.1 103 0 (fun q => absurd q (by decide)) (by decide) (by decide)]; exact h0
theorem m_pass {A : LA} {M M1 : Mem} {r : Nat → Int32} {Y Z n : Nat} (hA : okA A) (h : mW A M r M1) (hR : okR A Y Z r) (hY : Y < 10 ^ 6) (hZ : Z < 10 ^ 6) (hn : n < 10 ^ 4) : ∃ M2, fX13_goesYears M1 31 (nI n) = some M2 ∧ mW A M (yearsR A r n) M2 := by
  obtain ⟨f, hL, e, e0, ht⟩ := h
  obtain ⟨M2, h1, h2, h3⟩ := goesYears_ok (b := 31) (N := n) hL hA (by decide) hn (by rw [e]; exact hR) hY hZ
  exact ⟨M2, h1, f.tr (h3.RO (by decide)), hL.fr h3, by rw [h2, e], by rw [rB_fr h3 (by decide), e0], by rw [h3.1 103 0 (fun q => absurd q (by decide)) (by decide) (by decide)]; exact ht⟩
theorem m_goes {A : LA} {M M1 : Mem} {r : Nat → Int32} {Y Z : Nat} (hA : okA A) (h : mW A M r M1) (hR : okR A Y Z r) (hY : Y < 10 ^ 6) (hZ : Z < 10 ^ 6) : ∃ M2, fX13_goesBy M1 31 (-2) = some M2 ∧ mW A M (goesR A r) M2 := by
  obtain ⟨f, hL, e, e0, ht⟩ := h
  obtain ⟨M2, h1, h2, h3⟩ := goesW_ok (b := 31) hL hA (by decide) (by rw [e]; exact hR) (by omega) (by omega)
  exact ⟨M2, h1, f.tr (h3.RO (by decide)), hL.fr h3, by rw [h2, e], by rw [rB_fr h3 (by decide), e0], by rw [h3.1 103 0 (fun q => absurd q (by decide)) (by decide) (by decide)]; exact ht⟩
theorem mW.g {A : LA} {M M1 : Mem} {r : Nat → Int32} (h : mW A M r M1) {i : Nat} (hi : i < 31) : gI M1 133 (31 + i) = r i := by rw [rB_g hi, h.2.2.1]
theorem mW.g0 {A : LA} {M M1 : Mem} {r : Nat → Int32} (h : mW A M r M1) {i : Nat} (hi : i < 31) : gI M1 133 i = rB M 0 i := by rw [gB0 hi, h.2.2.2.1]
theorem then_q {A : LA} {M : Mem} (h : Rel A M) (x y : Int32) : qC (fX12_then M x y) (fun M1 => fX13_then M1 x y) M := by
  by_cases hy : y < 0 ∨ (6 : Int32) < y
  · refine ⟨.error 1, ?_, fun M1 f => ?_⟩
    · show fX12_then M x y = _
      unfold fX12_then
      rw [needWhat_eq, if_pos hy, bE_er]
    · show simM (fX13_then M1 _ _) M1 _
      unfold fX13_then
      rw [pu_s, gW_eq m00, if_pos hy]
      exact sM_er M0_ro
  · by_cases hx : x < 0 ∨ (60 : Int32) < x
    · refine ⟨.error 2, ?_, fun M1 f => ?_⟩
      · show fX12_then M x y = _
        unfold fX12_then
        rw [needWhat_eq, if_neg hy, bE_ok, needWithin_eq, if_pos hx, bE_er]
      · show simM (fX13_then M1 _ _) M1 _
        unfold fX13_then
        rw [pu_s, gW_eq m00, if_neg hy, gT_eq m00 (by decide), if_pos hx]
        exact sM_er M0_ro
    · obtain ⟨n, hn, en⟩ := lt_of (n := 60) hx (by decide)
      obtain ⟨k, hk, ek⟩ := lt_of (n := 6) hy (by decide)
      subst en
      subst ek
      have hR := h.okR
      obtain ⟨C1, c1, w1⟩ := c_start h RO.rf
      obtain ⟨C2, c2, w2⟩ := c_pass h.1 w1 hR (by decide) (by decide) (n := n) (by omega)
      let R := yearsR A (rB M 0) n
      have gC : ∀ i, i < 6 → gI C2 86 i = R i := fun i q => by rw [gC_f q, w2.2.2.1]
      have hm : ∀ M1, RO M M1 → ∃ D1 D2, fX13_lays0 (sI M1 103 0 0) 0 31 = some D1 ∧ fX13_goesYears D1 31 (nI n) = some D2 ∧ mW A M1 R D2 := by
        intro M1 f
        obtain ⟨D1, d1, v1⟩ := m_start (h.ro f) M0_ro m00
        obtain ⟨D2, d2, v2⟩ := m_pass h.1 v1 (h.ro f).okR (by decide) (by decide) (n := n) (by omega)
        exact ⟨D1, D2, d1, d2, by rw [f.rB] at v2; exact v2⟩
      rcases (show k = 0 ∨ k = 1 ∨ k = 2 ∨ k = 3 ∨ k = 4 ∨ k = 5 ∨ k = 6 by omega) with q | q | q | q | q | q | q <;> subst q
      · refine ⟨.ok (R 0), ⟨C2, ?_, w2.1⟩, fun M1 f => ?_⟩
        · unfold fX12_then
          rw [needWhat_eq, if_neg hy, bE_ok, needWithin_eq, if_neg hx, bE_ok, c1, b1_s, c2, b1_s, if_pos (show nI 0 = 0 from rfl), pu_s, gC 0 (by decide)]
        · obtain ⟨D1, D, d1, d2, v⟩ := hm M1 f
          show simM (fX13_then M1 _ _) M1 _
          unfold fX13_then
          rw [pu_s, gW_eq m00, if_neg hy, gT_eq m00 (by decide), if_neg hx, d1, b1_s, d2, b1_s, if_pos (show nI 0 = 0 from rfl), show (31 : Int32) + nI 0 = nI (31 + 0) from by decide, ldI_nI (by decide) (by decide), v.g (by decide)]
          exact sM_ok v.1 v.2.2.2.2
      · refine ⟨.ok (R 1), ⟨C2, ?_, w2.1⟩, fun M1 f => ?_⟩
        · unfold fX12_then
          rw [needWhat_eq, if_neg hy, bE_ok, needWithin_eq, if_neg hx, bE_ok, c1, b1_s, c2, b1_s, if_neg (show ¬ nI 1 = 0 from by decide), if_pos (show nI 1 = 1 from rfl), pu_s, gC 1 (by decide)]
        · obtain ⟨D1, D, d1, d2, v⟩ := hm M1 f
          show simM (fX13_then M1 _ _) M1 _
          unfold fX13_then
          rw [pu_s, gW_eq m00, if_neg hy, gT_eq m00 (by decide), if_neg hx, d1, b1_s, d2, b1_s, if_neg (show ¬ nI 1 = 0 from by decide), if_pos (show nI 1 = 1 from rfl), show (31 : Int32) + nI 1 = nI (31 + 1) from by decide, ldI_nI (by decide) (by decide), v.g (by decide)]
          exact sM_ok v.1 v.2.2.2.2
      · refine ⟨.ok (R 2), ⟨C2, ?_, w2.1⟩, fun M1 f => ?_⟩
        · unfold fX12_then
          rw [needWhat_eq, if_neg hy, bE_ok, needWithin_eq, if_neg hx, bE_ok, c1, b1_s, c2, b1_s, if_neg (show ¬ nI 2 = 0 from by decide), if_neg (show ¬ nI 2 = 1 from by decide), if_pos (show nI 2 = 2 from rfl), pu_s, gC 2 (by decide)]
        · obtain ⟨D1, D, d1, d2, v⟩ := hm M1 f
          show simM (fX13_then M1 _ _) M1 _
          unfold fX13_then
          rw [pu_s, gW_eq m00, if_neg hy, gT_eq m00 (by decide), if_neg hx, d1, b1_s, d2, b1_s, if_neg (show ¬ nI 2 = 0 from by decide), if_neg (show ¬ nI 2 = 1 from by decide), if_pos (show nI 2 = 2 from rfl), show (31 : Int32) + nI 2 = nI (31 + 2) from by decide, ldI_nI (by decide) (by decide), v.g (by decide)]
          exact sM_ok v.1 v.2.2.2.2
      · refine ⟨.ok (R 6), ⟨C2, ?_, w2.1⟩, fun M1 f => ?_⟩
        · unfold fX12_then
          rw [needWhat_eq, if_neg hy, bE_ok, needWithin_eq, if_neg hx, bE_ok, c1, b1_s, c2, b1_s, if_neg (show ¬ nI 3 = 0 from by decide), if_neg (show ¬ nI 3 = 1 from by decide), if_neg (show ¬ nI 3 = 2 from by decide), if_pos (show nI 3 = 3 from rfl), show (0 : Int32) = nI 0 from rfl, ldI_nI (by decide) (by decide), show gI C2 88 0 = rC C2 86 6 from gC_a2 (k := 86) (i := 0) (by decide), w2.2.2.1]
        · obtain ⟨D1, D, d1, d2, v⟩ := hm M1 f
          show simM (fX13_then M1 _ _) M1 _
          unfold fX13_then
          rw [pu_s, gW_eq m00, if_neg hy, gT_eq m00 (by decide), if_neg hx, d1, b1_s, d2, b1_s, if_neg (show ¬ nI 3 = 0 from by decide), if_neg (show ¬ nI 3 = 1 from by decide), if_neg (show ¬ nI 3 = 2 from by decide), if_pos (show nI 3 = 3 from rfl), show ((37 : Int32) + nI 3) - 3 = nI (31 + 6) from by decide, ldI_nI (by decide) (by decide), v.g (by decide)]
          exact sM_ok v.1 v.2.2.2.2
      · refine ⟨.ok (R 7), ⟨C2, ?_, w2.1⟩, fun M1 f => ?_⟩
        · unfold fX12_then
          rw [needWhat_eq, if_neg hy, bE_ok, needWithin_eq, if_neg hx, bE_ok, c1, b1_s, c2, b1_s, if_neg (show ¬ nI 4 = 0 from by decide), if_neg (show ¬ nI 4 = 1 from by decide), if_neg (show ¬ nI 4 = 2 from by decide), if_neg (show ¬ nI 4 = 3 from by decide), if_pos (show nI 4 = 4 from rfl), show (1 : Int32) = nI 1 from rfl, ldI_nI (by decide) (by decide), show gI C2 88 1 = rC C2 86 7 from gC_a2 (k := 86) (i := 1) (by decide), w2.2.2.1]
        · obtain ⟨D1, D, d1, d2, v⟩ := hm M1 f
          show simM (fX13_then M1 _ _) M1 _
          unfold fX13_then
          rw [pu_s, gW_eq m00, if_neg hy, gT_eq m00 (by decide), if_neg hx, d1, b1_s, d2, b1_s, if_neg (show ¬ nI 4 = 0 from by decide), if_neg (show ¬ nI 4 = 1 from by decide), if_neg (show ¬ nI 4 = 2 from by decide), if_neg (show ¬ nI 4 = 3 from by decide), if_pos (show nI 4 = 4 from rfl), show ((37 : Int32) + nI 4) - 3 = nI (31 + 7) from by decide, ldI_nI (by decide) (by decide), v.g (by decide)]
          exact sM_ok v.1 v.2.2.2.2
      · refine ⟨.ok (R 4), ⟨C2, ?_, w2.1⟩, fun M1 f => ?_⟩
        · unfold fX12_then
          rw [needWhat_eq, if_neg hy, bE_ok, needWithin_eq, if_neg hx, bE_ok, c1, b1_s, c2, b1_s, if_neg (show ¬ nI 5 = 0 from by decide), if_neg (show ¬ nI 5 = 1 from by decide), if_neg (show ¬ nI 5 = 2 from by decide), if_neg (show ¬ nI 5 = 3 from by decide), if_neg (show ¬ nI 5 = 4 from by decide), if_pos (show nI 5 = 5 from rfl), pu_s, gC 4 (by decide)]
        · obtain ⟨D1, D, d1, d2, v⟩ := hm M1 f
          show simM (fX13_then M1 _ _) M1 _
          unfold fX13_then
          rw [pu_s, gW_eq m00, if_neg hy, gT_eq m00 (by decide), if_neg hx, d1, b1_s, d2, b1_s, if_neg (show ¬ nI 5 = 0 from by decide), if_neg (show ¬ nI 5 = 1 from by decide), if_neg (show ¬ nI 5 = 2 from by decide), if_neg (show ¬ nI 5 = 3 from by decide), if_neg (show ¬ nI 5 = 4 from by decide), if_pos (show nI 5 = 5 from rfl), show (35 : Int32) = nI (31 + 4) from by decide, ldI_nI (by decide) (by decide), v.g (by decide)]
          exact sM_ok v.1 v.2.2.2.2
      · refine ⟨.ok (R 8), ⟨C2, ?_, w2.1⟩, fun M1 f => ?_⟩
        · unfold fX12_then
          rw [needWhat_eq, if_neg hy, bE_ok, needWithin_eq, if_neg hx, bE_ok, c1, b1_s, c2, b1_s, if_neg (show ¬ nI 6 = 0 from by decide), if_neg (show ¬ nI 6 = 1 from by decide), if_neg (show ¬ nI 6 = 2 from by decide), if_neg (show ¬ nI 6 = 3 from by decide), if_neg (show ¬ nI 6 = 4 from by decide), if_neg (show ¬ nI 6 = 5 from by decide), pu_s, gC_f6, w2.2.2.1]
        · obtain ⟨D1, D, d1, d2, v⟩ := hm M1 f
          show simM (fX13_then M1 _ _) M1 _
          unfold fX13_then
          rw [pu_s, gW_eq m00, if_neg hy, gT_eq m00 (by decide), if_neg hx, d1, b1_s, d2, b1_s, if_neg (show ¬ nI 6 = 0 from by decide), if_neg (show ¬ nI 6 = 1 from by decide), if_neg (show ¬ nI 6 = 2 from by decide), if_neg (show ¬ nI 6 = 3 from by decide), if_neg (show ¬ nI 6 = 4 from by decide), if_neg (show ¬ nI 6 = 5 from by decide), show (39 : Int32) = nI (31 + 8) from by decide, ldI_nI (by decide) (by decide), v.g (by decide)]
          exact sM_ok v.1 v.2.2.2.2
