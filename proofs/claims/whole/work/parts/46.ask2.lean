/-! QUESTIONS of the years to come: stays, fair, ruin, highest -/
def qN (o1 : Option (Int32 × Mem)) (o2 : Mem → Option (Int32 × Mem)) (M : Mem) : Prop := ∃ v M1, o1 = some (v, M1) ∧ RO M M1 ∧ ∀ M1', RO M M1' → ∃ M2, o2 M1' = some (v, M2) ∧ RO M1' M2
theorem age_n {r : Nat → Int32} {j : Nat} (h : ruler r < 2) (h3 : j ≠ 3) (h5 : j ≠ 5) (h10 : j ≠ 10) (h11 : j ≠ 11) : ageR r j = r j := by
  unfold ageR
  rw [upd_a, if_neg h5, upd_a, if_neg (by omega), upd_a, if_neg h3]
theorem do_n {A : LA} {r : Nat → Int32} {d : Int32} {j : Nat} (h : ruler r < 2) (h9 : 9 ≤ j ∨ j = 4 ∨ j = 3 ∨ j = 5) : (doX A r d).2 j = r j := by
  unfold doX
  split
  · rfl
  · unfold doR
    split
    · dsimp only
      rw [upd_a, if_neg (by omega)]
    · dsimp only
      rw [upd_a, if_neg (by omega), upd_a, if_neg (by omega), upd_a, if_neg (by omega), upd_a, if_neg (by omega)]
theorem ruler_do {A : LA} {r : Nat → Int32} {d : Int32} (h : ruler r < 2) : ruler (doX A r d).2 = ruler r := by
  unfold ruler
  rw [do_n h (by omega)]
/-- in a year of one's own either he stays, or the count of stays is as it was -/
theorem live_94 {A : LA} {r : Nat → Int32} {h9 d : Int32} (h : ruler r < 2) : liveR A r h9 d 9 = r 9 ∨ liveR A r h9 d 4 = r 4 := by
  have hg : ruler (gathR r h9) < 2 := by rw [ruler_gath]; exact h
  have hd : ruler (doX A (gathR r h9) d).2 < 2 := by rw [ruler_do hg]; exact hg
  have e9 : ageR (doX A (gathR r h9) d).2 9 = r 9 := by rw [age_n hd (by decide) (by decide) (by decide) (by decide), do_n hg (by omega), gathR_n (by decide) (by decide)]
  have e4 : ageR (doX A (gathR r h9) d).2 4 = r 4 := by rw [age_n hd (by decide) (by decide) (by decide) (by decide), do_n hg (by omega), gathR_n (by decide) (by decide)]
  unfold liveR turnR
  split
  · exact Or.inl e9
  · split
    · exact Or.inr (by rw [upd_a, if_neg (by decide)]; exact e4)
    · left
      unfold overR
      rw [upd_a, if_neg (by decide), upd_a, if_neg (by decide)]
      exact e9
def staysL (A : LA) (r : Nat → Int32) (what : Int32) : Nat → Nat → Int32
  | 0, _ => -1
  | d + 1, j => if r 9 < yearsR A r (j + 1) 9 then (if what = 0 then nI (j + 1) else yearsR A r (j + 1) 4) else staysL A r what d (j + 1)
theorem years1 {A : LA} {r : Nat → Int32} (j : Nat) : yearsR A (yearsR A r j) 1 = yearsR A r (j + 1) := rfl
theorem staysC_l {A : LA} {M : Mem} {what : Int32} {r : Nat → Int32} (hA : okA A) (hr : rB M 0 = r) (hR : okR A 999 19980 r) : ∀ (d j fuel : Nat) (M1 : Mem), cW A M (yearsR A r j) M1 → j + d = 60 → d < fuel → ∃ M2, fX12_stays_l19 fuel M1 what (nI (j + 1)) = some (.ok (staysL A r what d j, M2)) ∧ RO M M2 := by
  intro d
  induction d with
  | zero =>
    intro j fuel M1 w hj hf
    obtain ⟨m, rfl⟩ : ∃ m, fuel = m + 1 := ⟨fuel - 1, by omega⟩
    rw [fX12_stays_l19, show (60 : Int32) = nI 60 from rfl, if_pos (by rw [lt_nI (by decide) (by omega)]; omega)]
    exact ⟨M1, rfl, w.1⟩
  | succ d ih =>
    intro j fuel M1 w hj hf
    obtain ⟨m, rfl⟩ : ∃ m, fuel = m + 1 := ⟨fuel - 1, by omega⟩
    obtain ⟨M2, h2, w2⟩ := c_pass hA w (okR_years hR hA (by decide) j (by omega)) (by omega) (by omega) (n := 1) (by decide)
    rw [years1] at w2
    rw [fX12_stays_l19, show (60 : Int32) = nI 60 from rfl, if_neg (by rw [lt_nI (by decide) (by omega)]; omega), show fX7_passMany M1 86 1 = _ from h2, b1_s]
    simp only [pu_s]
    rw [gC_f7, gC_f7, w2.2.2.1, w2.2.2.2, hr]
    unfold staysL
    by_cases hs : r 9 < yearsR A r (j + 1) 9
    · rw [if_pos hs, if_pos hs]
      by_cases hw : what = 0
      · rw [if_pos hw, if_pos hw]
        exact ⟨M2, rfl, w2.1⟩
      · rw [if_neg hw, if_neg hw, gC_f (by decide), w2.2.2.1]
        exact ⟨M2, rfl, w2.1⟩
    · rw [if_neg hs, if_neg hs, nI_1]
      exact ih (j + 1) m M2 w2 (by omega) (by omega)
theorem staysM_l {A : LA} {M : Mem} {what : Int32} {r : Nat → Int32} (hA : okA A) (hr : rB M 0 = r) (hR : okR A 999 19980 r) : ∀ (d j fuel : Nat) (M1 : Mem), mW A M (yearsR A r j) M1 → ¬ r 9 < yearsR A r j 9 → j + d = 60 → d < fuel → ∃ M2, fX13_stays_l25 fuel M1 what (nI (j + 1)) = some (staysL A r what d j, M2) ∧ RO M M2 ∧ gI M2 103 0 = 0 := by
  intro d
  induction d with
  | zero =>
    intro j fuel M1 w hn hj hf
    obtain ⟨m, rfl⟩ : ∃ m, fuel = m + 1 := ⟨fuel - 1, by omega⟩
    rw [fX13_stays_l25, show (60 : Int32) = nI 60 from rfl, if_pos (by rw [lt_nI (by decide) (by omega)]; omega)]
    exact ⟨M1, rfl, w.1, w.2.2.2.2⟩
  | succ d ih =>
    intro j fuel M1 w hn hj hf
    obtain ⟨m, rfl⟩ : ∃ m, fuel = m + 1 := ⟨fuel - 1, by omega⟩
    have hRj := okR_years hR hA (by decide) j (by omega)
    obtain ⟨M2, h2, w2⟩ := m_goes hA w hRj (by omega) (by omega)
    rw [← yearsR_s] at w2
    rw [fX13_stays_l25, show (60 : Int32) = nI 60 from rfl, if_neg (by rw [lt_nI (by decide) (by omega)]; omega), show (35 : Int32) = nI (31 + 4) from by decide, ldI_nI (by decide) (by decide), w.g (by decide), h2, b1_s, show (40 : Int32) = nI (31 + 9) from by decide, ldI_nI (by decide) (by decide), w2.g (by decide), show (9 : Int32) = nI 9 from rfl, ldI_nI (by decide) (by decide), w2.g0 (by decide), hr]
    unfold staysL
    by_cases hs : r 9 < yearsR A r (j + 1) 9
    · rw [if_pos hs, if_pos hs]
      by_cases hw : what = 0
      · rw [if_pos hw, if_pos hw]
        exact ⟨M2, rfl, w2.1, w2.2.2.2.2⟩
      · rw [if_neg hw, if_neg hw]
        refine ⟨M2, ?_, w2.1, w2.2.2.2.2⟩
        rcases live_94 (A := A) (h9 := harvR A (yearsR A r j)) (d := wayR A (yearsR A r j) (ruler (yearsR A r j))) (ruler_lt hRj).1 with e | e
        · exact absurd (by rw [show yearsR A r (j + 1) 9 = yearsR A r j 9 from e] at hs; exact hs) hn
        · rw [show yearsR A r (j + 1) 4 = yearsR A r j 4 from e]
    · rw [if_neg hs, if_neg hs, pu_s, nI_1]
      exact ih (j + 1) m M2 w2 hs (by omega) (by omega)
theorem stays_q {A : LA} {M : Mem} (h : Rel A M) (y : Int32) : qC (fX12_stays M y) (fun M1 => fX13_stays M1 y) M := by
  by_cases hy : y < 0 ∨ (1 : Int32) < y
  · refine ⟨.error 1, ?_, fun M1 f => ?_⟩
    · show fX12_stays M y = _
      unfold fX12_stays
      rw [needWhat_eq, if_pos hy, bE_er]
    · show simM (fX13_stays M1 _) M1 _
      unfold fX13_stays
      rw [pu_s, gW_eq m00, if_pos hy]
      exact sM_er M0_ro
  · refine ⟨.ok (staysL A (rB M 0) y 60 0), ?_, fun M1 f => ?_⟩
    · obtain ⟨C1, c1, w1⟩ := c_start h RO.rf
      obtain ⟨C2, c2, f2⟩ := staysC_l (what := y) h.1 rfl h.okR 60 0 FU C1 w1 rfl (by decide)
      refine ⟨C2, ?_, f2⟩
      unfold fX12_stays
      rw [needWhat_eq, if_neg hy, bE_ok, c1, b1_s]
      exact c2
    · obtain ⟨D1, d1, v1⟩ := m_start (h.ro f) M0_ro m00
      obtain ⟨D2, d2, f2, t2⟩ := staysM_l (what := y) h.1 rfl (h.ro f).okR 60 0 FU D1 v1 (by show ¬ _ < _; exact Int32.lt_irrefl) rfl (by decide)
      show simM (fX13_stays M1 _) M1 _
      unfold fX13_stays
      rw [pu_s, gW_eq m00, if_neg hy, d1, b1_s, show fX13_stays_l25 FU D1 y 1 = _ from d2, f.rB]
      exact sM_ok f2 t2
def ruinL (A : LA) (r : Nat → Int32) : Nat → Nat → Int32
  | 0, _ => -1
  | d + 1, j => if yearsR A r j 0 < yearsR A r j 2 then nI j else ruinL A r d (j + 1)
theorem ruinC_l {A : LA} {M : Mem} {r : Nat → Int32} (hA : okA A) (hR : okR A 999 19980 r) : ∀ (d j fuel : Nat) (M1 : Mem), cW A M (yearsR A r j) M1 → j + d = 61 → d < fuel → ∃ M2, fX12_ruin_l13 fuel M1 (nI j) = some (ruinL A r d j, M2) ∧ RO M M2 := by
  intro d
  induction d with
  | zero =>
    intro j fuel M1 w hj hf
    obtain ⟨m, rfl⟩ : ∃ m, fuel = m + 1 := ⟨fuel - 1, by omega⟩
    rw [fX12_ruin_l13, show (60 : Int32) = nI 60 from rfl, if_pos (by rw [lt_nI (by decide) (by omega)]; omega)]
    exact ⟨M1, rfl, w.1⟩
  | succ d ih =>
    intro j fuel M1 w hj hf
    obtain ⟨m, rfl⟩ : ∃ m, fuel = m + 1 := ⟨fuel - 1, by omega⟩
    rw [fX12_ruin_l13, show (60 : Int32) = nI 60 from rfl, if_neg (by rw [lt_nI (by decide) (by omega)]; omega)]
    simp only [pu_s]
    rw [gC_f (by decide), gC_f (by decide), w.2.2.1]
    unfold ruinL
    by_cases hs : yearsR A r j 0 < yearsR A r j 2
    · rw [if_pos hs, if_pos hs]
      exact ⟨M1, rfl, w.1⟩
    · obtain ⟨M2, h2, w2⟩ := c_pass hA w (okR_years hR hA (by decide) j (by omega)) (by omega) (by omega) (n := 1) (by decide)
      rw [years1] at w2
      rw [if_neg hs, if_neg hs, show fX7_passMany M1 86 1 = _ from h2, b1_s, nI_1]
      exact ih (j + 1) m M2 w2 (by omega) (by omega)
theorem ruinM_l {A : LA} {M : Mem} {r : Nat → Int32} (hA : okA A) (hR : okR A 999 19980 r) : ∀ (d j fuel : Nat) (M1 : Mem), mW A M (yearsR A r j) M1 → j + d = 61 → d < fuel → ∃ M2, fX13_ruin_l14 fuel M1 (nI j) = some (ruinL A r d j, M2) ∧ RO M M2 := by
  intro d
  induction d with
  | zero =>
    intro j fuel M1 w hj hf
    obtain ⟨m, rfl⟩ : ∃ m, fuel = m + 1 := ⟨fuel - 1, by omega⟩
    rw [fX13_ruin_l14, show (60 : Int32) = nI 60 from rfl, if_pos (by rw [lt_nI (by decide) (by omega)]; omega)]
    exact ⟨M1, rfl, w.1⟩
  | succ d ih =>
    intro j fuel M1 w hj hf
    obtain ⟨m, rfl⟩ : ∃ m, fuel = m + 1 := ⟨fuel - 1, by omega⟩
    rw [fX13_ruin_l14, show (60 : Int32) = nI 60 from rfl, if_neg (by rw [lt_nI (by decide) (by omega)]; omega), show (33 : Int32) = nI (31 + 2) from by decide, ldI_nI (by decide) (by decide), w.g (by decide), show (31 : Int32) = nI (31 + 0) from by decide, ldI_nI (by decide) (by decide), w.g (by decide)]
    unfold ruinL
    by_cases hs : yearsR A r j 0 < yearsR A r j 2
    · rw [if_pos hs, if_pos hs]
      exact ⟨M1, rfl, w.1⟩
    · obtain ⟨M2, h2, w2⟩ := m_goes hA w (okR_years hR hA (by decide) j (by omega)) (by omega) (by omega)
      rw [← yearsR_s] at w2
      rw [if_neg hs, if_neg hs, show fX13_goesBy M1 (nI (31 + 0)) (-2) = _ from h2, b1_s, pu_s, nI_1]
      exact ih (j + 1) m M2 w2 (by omega) (by omega)
theorem ruin_q {A : LA} {M : Mem} (h : Rel A M) : qN (fX12_ruin M) (fun M1 => fX13_ruin M1) M := by
  obtain ⟨C1, c1, w1⟩ := c_start h RO.rf
  obtain ⟨C2, c2, f2⟩ := ruinC_l h.1 h.okR 61 0 FU C1 w1 rfl (by decide)
  refine ⟨ruinL A (rB M 0) 61 0, C2, ?_, f2, fun M1 f => ?_⟩
  · unfold fX12_ruin
    rw [c1, b1_s]
    exact c2
  · obtain ⟨D1, d1, v1⟩ := m_start (h.ro f) M0_ro m00
    obtain ⟨D2, d2, f2⟩ := ruinM_l h.1 (h.ro f).okR 61 0 FU D1 v1 rfl (by decide)
    refine ⟨D2, ?_, f2⟩
    show fX13_ruin M1 = _
    unfold fX13_ruin
    rw [pu_s, d1, b1_s, show fX13_ruin_l14 FU D1 0 = _ from d2, f.rB]
