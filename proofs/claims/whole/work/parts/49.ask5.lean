/-! QUESTIONS of the years to come: fair, least -/
def termR (r : Nat → Int32) (t : Nat) : Nat → Int32 := upd r 12 (nI t)
theorem okR_term {A : LA} {Y Z t : Nat} {r : Nat → Int32} (h : okR A Y Z r) (h1 : 1 ≤ t) (h5 : t ≤ 5) : okR A Y Z (termR r t) := by
  obtain ⟨g0, g1, g2, g3, g4, g5, g6, g7, g8, g9, g10, g11, g12, g13⟩ := h
  have e : ∀ j, j ≠ 12 → termR r t j = r j := fun j hj => by unfold termR; rw [upd_a, if_neg hj]
  refine ⟨?_, ?_, ?_, ?_, ?_, ?_, ?_, ?_, ?_, ?_, ⟨t, h1, h5, by unfold termR; rw [upd_a, if_pos rfl]⟩, fun b hb i hi => ?_, fun i hi => ?_, fun j hj => ?_⟩
  · rw [e _ (by decide)]; exact g0
  · rw [e _ (by decide)]; exact g1
  · rw [e _ (by decide)]; exact g2
  · rw [e _ (by decide)]; exact g3
  · rw [e _ (by decide)]; exact g4
  · rw [e _ (by decide)]; exact g5
  · rw [e _ (by decide)]; exact g6
  · rw [e _ (by decide)]; exact g7
  · rw [e _ (by decide)]; exact g8
  · rw [e _ (by decide)]; exact g9
  · rw [e _ (by omega)]; exact g11 b hb i hi
  · rw [e _ (by omega)]; exact g12 i hi
  · rw [e _ (by omega)]; exact g13 j hj
def T30 (A : LA) (r : Nat → Int32) (t : Nat) : Nat → Int32 := yearsR A (termR r t) 30
theorem passT_ok {A : LA} {M M1 : Mem} {t : Nat} (h : Rel A M) (f : RO M M1) (h1 : 1 ≤ t) (h5 : t ≤ 5) : ∃ M2, fX12_passWithTerm M1 (nI t) = some M2 ∧ cW A M (T30 A (rB M 0) t) M2 := by
  obtain ⟨C1, c1, w1⟩ := c_start h f
  have w2 : cW A M (termR (rB M 0) t) (sI C1 86 8 (nI t)) := by
    obtain ⟨g, hL, e, e81⟩ := w1
    exact ⟨g.st (by unfold scr; omega), hL.fr (k := 86) (by decide) (frC.rf.st (by omega)), by rw [rC_f8, e]; rfl, by rw [rC_n (by omega), e81]⟩
  obtain ⟨C3, c3, w3⟩ := c_pass h.1 w2 (okR_term h.okR h1 h5) (by decide) (by decide) (n := 30) (by decide)
  refine ⟨C3, ?_, w3⟩
  unfold fX12_passWithTerm
  rw [c1, b1_s, pu_s, show fX7_passMany (sI C1 86 8 (nI t)) 86 30 = _ from c3, b1_s]
theorem goesT_ok {A : LA} {M M1 : Mem} {t : Nat} (h : Rel A M) (f : RO M M1) (h0 : gI M1 103 0 = 0) (h1 : 1 ≤ t) (h5 : t ≤ 5) : ∃ M2, fX13_goesByTerm M1 (nI t) = some M2 ∧ mW A M (T30 A (rB M 0) t) M2 := by
  obtain ⟨D1, d1, v1⟩ := m_start h f h0
  have v2 : mW A M (termR (rB M 0) t) (sI D1 133 (31 + 12) (nI t)) := by
    obtain ⟨g, hL, e, e0, ht⟩ := v1
    exact ⟨g.st (by unfold scr; omega), hL.fr (b := 31) (frM.rf.st (by omega) (by omega)), by rw [rB_s (by decide), e]; rfl, by rw [rB_o (by omega), e0], by rw [gI_sa (by decide)]; exact ht⟩
  obtain ⟨D3, d3, v3⟩ := m_pass h.1 v2 (okR_term h.okR h1 h5) (by decide) (by decide) (n := 30) (by decide)
  refine ⟨D3, ?_, v3⟩
  unfold fX13_goesByTerm
  rw [d1, b1_s, show (43 : Int32) = nI (31 + 12) from by decide, stI_nI (by decide) (by decide), show fX13_goesYears (sI D1 133 (31 + 12) (nI t)) 31 30 = _ from d3, b1_s]
def fairL (A : LA) (r : Nat → Int32) : Nat → Nat → Int32
  | 0, _ => -1
  | d + 1, t => if T30 A r t 9 = r 9 then nI t else fairL A r d (t + 1)
theorem fairC_l {A : LA} {M : Mem} (h : Rel A M) : ∀ (d t fuel : Nat) (M1 : Mem), RO M M1 → t + d = 6 → 1 ≤ t → d < fuel → ∃ M2, fX12_fair_l2 fuel M1 (nI t) = some (fairL A (rB M 0) d t, M2) ∧ RO M M2 := by
  intro d
  induction d with
  | zero =>
    intro t fuel M1 f ht h1 hf
    obtain ⟨m, rfl⟩ : ∃ m, fuel = m + 1 := ⟨fuel - 1, by omega⟩
    rw [fX12_fair_l2, show (5 : Int32) = nI 5 from rfl, if_pos (by rw [lt_nI (by decide) (by omega)]; omega)]
    exact ⟨M1, rfl, f⟩
  | succ d ih =>
    intro t fuel M1 f ht h1 hf
    obtain ⟨m, rfl⟩ : ∃ m, fuel = m + 1 := ⟨fuel - 1, by omega⟩
    obtain ⟨M2, h2, w2⟩ := passT_ok h f h1 (t := t) (by omega)
    rw [fX12_fair_l2, show (5 : Int32) = nI 5 from rfl, if_neg (by rw [lt_nI (by decide) (by omega)]; omega), h2, b1_s]
    simp only [pu_s]
    rw [gC_f7, gC_f7, w2.2.2.1, w2.2.2.2]
    unfold fairL
    by_cases hs : T30 A (rB M 0) t 9 = rB M 0 9
    · rw [if_pos hs, if_pos hs]; exact ⟨M2, rfl, w2.1⟩
    · rw [if_neg hs, if_neg hs, nI_1]
      exact ih (t + 1) m M2 w2.1 (by omega) (by omega) (by omega)
theorem fairM_l {A : LA} {M : Mem} (h : Rel A M) : ∀ (d t fuel : Nat) (M1 : Mem), RO M M1 → gI M1 103 0 = 0 → t + d = 6 → 1 ≤ t → d < fuel → ∃ M2, fX13_fair_l7 fuel M1 (nI t) = some (fairL A (rB M 0) d t, M2) ∧ RO M M2 := by
  intro d
  induction d with
  | zero =>
    intro t fuel M1 f h0 ht h1 hf
    obtain ⟨m, rfl⟩ : ∃ m, fuel = m + 1 := ⟨fuel - 1, by omega⟩
    rw [fX13_fair_l7, show (5 : Int32) = nI 5 from rfl, if_pos (by rw [lt_nI (by decide) (by omega)]; omega)]
    exact ⟨M1, rfl, f⟩
  | succ d ih =>
    intro t fuel M1 f h0 ht h1 hf
    obtain ⟨m, rfl⟩ : ∃ m, fuel = m + 1 := ⟨fuel - 1, by omega⟩
    obtain ⟨M2, h2, w2⟩ := goesT_ok h f h0 h1 (t := t) (by omega)
    rw [fX13_fair_l7, show (5 : Int32) = nI 5 from rfl, if_neg (by rw [lt_nI (by decide) (by omega)]; omega), h2, b1_s, show (40 : Int32) = nI (31 + 9) from by decide, ldI_nI (by decide) (by decide), w2.g (by decide), show (9 : Int32) = nI 9 from rfl, ldI_nI (by decide) (by decide), w2.g0 (by decide)]
    unfold fairL
    by_cases hs : T30 A (rB M 0) t 9 = rB M 0 9
    · rw [if_pos hs, if_pos hs]; exact ⟨M2, rfl, w2.1⟩
    · rw [if_neg hs, if_neg hs, pu_s, nI_1]
      exact ih (t + 1) m M2 w2.1 w2.2.2.2.2 (by omega) (by omega) (by omega)
theorem fair_q {A : LA} {M : Mem} (h : Rel A M) : qN (fX12_fair M) (fun M1 => fX13_fair M1) M := by
  obtain ⟨C2, c2, f2⟩ := fairC_l h 5 1 FU M RO.rf rfl (by decide) (by decide)
  refine ⟨fairL A (rB M 0) 5 1, C2, c2, f2, fun M1 f => ?_⟩
  obtain ⟨D2, d2, g2⟩ := fairM_l (h.ro f) 5 1 FU (sI M1 103 0 0) M0_ro m00 rfl (by decide) (by decide)
  refine ⟨D2, ?_, g2⟩
  show fX13_fair M1 = _
  unfold fX13_fair
  rw [pu_s, show fX13_fair_l7 FU (sI M1 103 0 0) 1 = _ from d2, f.rB]
def leaL (A : LA) (r : Nat → Int32) : Nat → Nat → Nat → Int32 → Int32
  | 0, _, b, _ => nI b
  | d + 1, t, b, w => if T30 A r t 8 < w then leaL A r d (t + 1) t (T30 A r t 8) else leaL A r d (t + 1) b w
theorem leaC_l {A : LA} {M : Mem} (h : Rel A M) : ∀ (d t b fuel : Nat) (w : Int32) (M1 : Mem), RO M M1 → t + d = 6 → 2 ≤ t → d < fuel → ∃ M2, fX12_least_l6 fuel M1 (nI b) w (nI t) = some (leaL A (rB M 0) d t b w, M2) ∧ RO M M2 := by
  intro d
  induction d with
  | zero =>
    intro t b fuel w M1 f ht h1 hf
    obtain ⟨m, rfl⟩ : ∃ m, fuel = m + 1 := ⟨fuel - 1, by omega⟩
    rw [fX12_least_l6, show (5 : Int32) = nI 5 from rfl, if_pos (by rw [lt_nI (by decide) (by omega)]; omega)]
    exact ⟨M1, rfl, f⟩
  | succ d ih =>
    intro t b fuel w M1 f ht h1 hf
    obtain ⟨m, rfl⟩ : ∃ m, fuel = m + 1 := ⟨fuel - 1, by omega⟩
    obtain ⟨M2, h2, w2⟩ := passT_ok h f (t := t) (by omega) (by omega)
    rw [fX12_least_l6, show (5 : Int32) = nI 5 from rfl, if_neg (by rw [lt_nI (by decide) (by omega)]; omega), h2, b1_s, show (1 : Int32) = nI 1 from rfl, if_neg (by rw [eq_nI (by omega) (by decide)]; omega)]
    unfold fX12_least_b32 fX12_least_b42
    simp only [pu_s]
    rw [gC_f6, w2.2.2.1]
    unfold leaL
    by_cases hs : T30 A (rB M 0) t 8 < w
    · rw [if_pos hs, if_pos hs, nI_1]
      exact ih (t + 1) t m _ M2 w2.1 (by omega) (by omega) (by omega)
    · rw [if_neg hs, if_neg hs, nI_1]
      exact ih (t + 1) b m w M2 w2.1 (by omega) (by omega) (by omega)
theorem leaM_l {A : LA} {M : Mem} (h : Rel A M) : ∀ (d t b fuel : Nat) (w : Int32) (M1 : Mem), RO M M1 → gI M1 103 0 = 0 → t + d = 6 → 2 ≤ t → 1 ≤ b → b ≤ 5 → d < fuel → ∃ M2, fX13_least_l11 fuel M1 (nI b) w (nI t) = some (leaL A (rB M 0) d t b w, M2) ∧ RO M M2 := by
  intro d
  induction d with
  | zero =>
    intro t b fuel w M1 f h0 ht h1 hb1 hb5 hf
    obtain ⟨m, rfl⟩ : ∃ m, fuel = m + 1 := ⟨fuel - 1, by omega⟩
    rw [fX13_least_l11, show (5 : Int32) = nI 5 from rfl, if_pos (by rw [lt_nI (by decide) (by omega)]; omega)]
    exact ⟨M1, rfl, f⟩
  | succ d ih =>
    intro t b fuel w M1 f h0 ht h1 hb1 hb5 hf
    obtain ⟨m, rfl⟩ : ∃ m, fuel = m + 1 := ⟨fuel - 1, by omega⟩
    obtain ⟨M2, h2, w2⟩ := goesT_ok h f h0 (t := t) (by omega) (by omega)
    rw [fX13_least_l11, show (5 : Int32) = nI 5 from rfl, if_neg (by rw [lt_nI (by decide) (by omega)]; omega), h2, b1_s, if_neg (nI_ne0 (by omega) (by omega))]
    unfold fX13_least_b39 fX13_least_b49
    rw [show (39 : Int32) = nI (31 + 8) from by decide, ldI_nI (by decide) (by decide), w2.g (by decide), ldI_nI (by decide) (by decide), w2.g (by decide)]
    simp only [pu_s]
    unfold leaL
    by_cases hs : T30 A (rB M 0) t 8 < w
    · rw [if_pos hs, if_pos hs, nI_1]
      exact ih (t + 1) t m _ M2 w2.1 w2.2.2.2.2 (by omega) (by omega) (by omega) (by omega) (by omega)
    · rw [if_neg hs, if_neg hs, nI_1]
      exact ih (t + 1) b m w M2 w2.1 w2.2.2.2.2 (by omega) (by omega) hb1 hb5 (by omega)
theorem least_q {A : LA} {M : Mem} (h : Rel A M) : qN (fX12_least M) (fun M1 => fX13_least M1) M := by
  obtain ⟨C1, c1, w1⟩ := passT_ok h RO.rf (t := 1) (by decide) (by decide)
  obtain ⟨C2, c2, f2⟩ := leaC_l h 4 2 1 99999 (T30 A (rB M 0) 1 8) C1 w1.1 rfl (by decide) (by decide)
  refine ⟨leaL A (rB M 0) 4 2 1 (T30 A (rB M 0) 1 8), C2, ?_, f2, fun M1 f => ?_⟩
  · unfold fX12_least
    rw [show FU = 99999 + 1 from rfl, fX12_least_l6, if_neg (by decide), show fX12_passWithTerm M 1 = _ from c1, b1_s, if_pos rfl]
    unfold fX12_least_b32 fX12_least_b42
    simp only [pu_s]
    rw [gC_f6, w1.2.2.1]
    exact c2
  · obtain ⟨D1, d1, v1⟩ := goesT_ok (h.ro f) M0_ro m00 (t := 1) (by decide) (by decide)
    obtain ⟨D2, d2, g2⟩ := leaM_l (h.ro f) 4 2 1 99999 (T30 A (rB M1 0) 1 8) D1 v1.1 v1.2.2.2.2 rfl (by decide) (by decide) (by decide) (by decide)
    refine ⟨D2, ?_, g2⟩
    show fX13_least M1 = _
    unfold fX13_least
    rw [pu_s, show FU = 99999 + 1 from rfl, fX13_least_l11, if_neg (by decide), show fX13_goesByTerm (sI M1 103 0 0) 1 = _ from d1, b1_s, if_pos rfl]
    unfold fX13_least_b39 fX13_least_b49
    rw [show (39 : Int32) = nI (31 + 8) from by decide, ldI_nI (by decide) (by decide), v1.g (by decide)]
    simp only [pu_s]
    rw [f.rB] at d2 ⊢
    exact d2
