/-! QUESTIONS of the years to come: highest, better, cost -/
def highL (A : LA) (r : Nat → Int32) (what : Int32) : Nat → Nat → Int32 → Int32 → Int32
  | 0, _, w, m => if what = 0 then w else m
  | d + 1, j, w, m => if m < yearsR A r (j + 1) 1 then highL A r what d (j + 1) (nI (j + 1)) (yearsR A r (j + 1) 1) else highL A r what d (j + 1) w m
theorem highC_l {A : LA} {M : Mem} {what : Int32} {r : Nat → Int32} (hA : okA A) (hR : okR A 999 19980 r) : ∀ (d j fuel : Nat) (M1 : Mem) (w9 m9 : Int32), cW A M (yearsR A r j) M1 → j + d = 60 → d < fuel → ∃ M2, fX12_highest_l30 fuel M1 what w9 m9 (nI (j + 1)) = some (.ok (highL A r what d j w9 m9, M2)) ∧ RO M M2 := by
  intro d
  induction d with
  | zero =>
    intro j fuel M1 w9 m9 w hj hf
    obtain ⟨m, rfl⟩ : ∃ m, fuel = m + 1 := ⟨fuel - 1, by omega⟩
    rw [fX12_highest_l30, show (60 : Int32) = nI 60 from rfl, if_pos (by rw [lt_nI (by decide) (by omega)]; omega)]
    unfold highL
    by_cases hw : what = 0
    · rw [if_pos hw, if_pos hw]; exact ⟨M1, rfl, w.1⟩
    · rw [if_neg hw, if_neg hw]; exact ⟨M1, rfl, w.1⟩
  | succ d ih =>
    intro j fuel M1 w9 m9 w hj hf
    obtain ⟨m, rfl⟩ : ∃ m, fuel = m + 1 := ⟨fuel - 1, by omega⟩
    obtain ⟨M2, h2, w2⟩ := c_pass hA w (okR_years hR hA (by decide) j (by omega)) (by omega) (by omega) (n := 1) (by decide)
    rw [years1] at w2
    rw [fX12_highest_l30, show (60 : Int32) = nI 60 from rfl, if_neg (by rw [lt_nI (by decide) (by omega)]; omega), show fX7_passMany M1 86 1 = _ from h2, b1_s]
    unfold fX12_highest_b71
    simp only [pu_s]
    rw [gC_f (by decide), w2.2.2.1]
    unfold highL
    by_cases hs : m9 < yearsR A r (j + 1) 1
    · rw [if_pos hs, if_pos hs, nI_1]
      exact ih (j + 1) m M2 _ _ w2 (by omega) (by omega)
    · rw [if_neg hs, if_neg hs, nI_1]
      exact ih (j + 1) m M2 _ _ w2 (by omega) (by omega)
theorem highM_l {A : LA} {M : Mem} {what : Int32} {r : Nat → Int32} (hA : okA A) (hR : okR A 999 19980 r) : ∀ (d j fuel : Nat) (M1 : Mem) (w9 m9 : Int32), mW A M (yearsR A r j) M1 → j + d = 60 → d < fuel → ∃ M2, fX13_highest_l35 fuel M1 what w9 m9 (nI (j + 1)) = some (highL A r what d j w9 m9, M2) ∧ RO M M2 ∧ gI M2 103 0 = 0 := by
  intro d
  induction d with
  | zero =>
    intro j fuel M1 w9 m9 w hj hf
    obtain ⟨m, rfl⟩ : ∃ m, fuel = m + 1 := ⟨fuel - 1, by omega⟩
    rw [fX13_highest_l35, show (60 : Int32) = nI 60 from rfl, if_pos (by rw [lt_nI (by decide) (by omega)]; omega)]
    unfold highL
    by_cases hw : what = 0
    · rw [if_pos hw, if_pos hw]; exact ⟨M1, rfl, w.1, w.2.2.2.2⟩
    · rw [if_neg hw, if_neg hw]; exact ⟨M1, rfl, w.1, w.2.2.2.2⟩
  | succ d ih =>
    intro j fuel M1 w9 m9 w hj hf
    obtain ⟨m, rfl⟩ : ∃ m, fuel = m + 1 := ⟨fuel - 1, by omega⟩
    obtain ⟨M2, h2, w2⟩ := m_goes hA w (okR_years hR hA (by decide) j (by omega)) (by omega) (by omega)
    rw [← yearsR_s] at w2
    rw [fX13_highest_l35, show (60 : Int32) = nI 60 from rfl, if_neg (by rw [lt_nI (by decide) (by omega)]; omega), h2, b1_s, show (32 : Int32) = nI (31 + 1) from by decide]
    unfold fX13_highest_b75
    rw [ldI_nI (by decide) (by decide), w2.g (by decide), ldI_nI (by decide) (by decide), w2.g (by decide)]
    simp only [pu_s]
    unfold highL
    by_cases hs : m9 < yearsR A r (j + 1) 1
    · rw [if_pos hs, if_pos hs, nI_1]
      exact ih (j + 1) m M2 _ _ w2 (by omega) (by omega)
    · rw [if_neg hs, if_neg hs, nI_1]
      exact ih (j + 1) m M2 _ _ w2 (by omega) (by omega)
theorem highest_q {A : LA} {M : Mem} (h : Rel A M) (y : Int32) : qC (fX12_highest M y) (fun M1 => fX13_highest M1 y) M := by
  by_cases hy : y < 0 ∨ (1 : Int32) < y
  · refine ⟨.error 1, ?_, fun M1 f => ?_⟩
    · show fX12_highest M y = _
      unfold fX12_highest
      rw [needWhat_eq, if_pos hy, bE_er]
    · show simM (fX13_highest M1 _) M1 _
      unfold fX13_highest
      rw [pu_s, gW_eq m00, if_pos hy]
      exact sM_er M0_ro
  · refine ⟨.ok (highL A (rB M 0) y 60 0 0 (rB M 0 1)), ?_, fun M1 f => ?_⟩
    · obtain ⟨C1, c1, w1⟩ := c_start h RO.rf
      obtain ⟨C2, c2, f2⟩ := highC_l (what := y) h.1 h.okR 60 0 FU C1 0 (rB M 0 1) w1 rfl (by decide)
      refine ⟨C2, ?_, f2⟩
      unfold fX12_highest
      rw [needWhat_eq, if_neg hy, bE_ok, c1, b1_s, pu_s, gC_f (by decide), w1.2.2.1]
      exact c2
    · obtain ⟨D1, d1, v1⟩ := m_start (h.ro f) M0_ro m00
      obtain ⟨D2, d2, f2, t2⟩ := highM_l (what := y) h.1 (h.ro f).okR 60 0 FU D1 0 (rB M1 0 1) v1 rfl (by decide)
      show simM (fX13_highest M1 _) M1 _
      unfold fX13_highest
      rw [pu_s, gW_eq m00, if_neg hy, d1, b1_s, show (1 : Int32) = nI 1 from rfl, ldI_nI (by decide) (by decide), v1.g0 (by decide), show fX13_highest_l35 FU D1 y 0 (rB M1 0 1) (nI 1) = _ from d2, f.rB]
      exact sM_ok f2 t2
def weal (r : Nat → Int32) : Int32 := r 0 - r 2
theorem wealth_eq {M : Mem} {k : Nat} (hk : kd k = 2) : fX3_wealth M k = some (weal (rC M k)) := by
  unfold fX3_wealth weal
  rw [ck_t hk, pu_s, pu_s, gC_f (by decide), gC_f (by decide)]
theorem weal_B {A : LA} {Y Z : Nat} {r : Nat → Int32} (h : okR A Y Z r) : inZ (weal r) 999 := by
  have h0 := inB_int h.1 (by decide)
  have h2 := inB_int h.2.2.1 (by decide)
  unfold inZ weal
  rw [Int32.toInt_sub, Int.bmod_eq_of_le (by omega) (by omega)]
  omega
theorem inZ_neg {x : Int32} {n : Nat} (h : inZ x n) (hn : n < 2 ^ 31) : inZ (-x) n ∧ (-x).toInt = -x.toInt := by
  unfold inZ at h ⊢
  have e : (-x).toInt = -x.toInt := by rw [Int32.toInt_neg, Int.bmod_eq_of_le (by omega) (by omega)]
  rw [e]
  omega
theorem inZ_sub {x y : Int32} {m n : Nat} (hx : inZ x m) (hy : inZ y n) (h : m + n < 2 ^ 31) : inZ (x - y) (m + n) := by
  unfold inZ at hx hy ⊢
  rw [Int32.toInt_sub, Int.bmod_eq_of_le (by omega) (by omega)]
  omega
def betF (what l : Int32) : Int32 := if what = 0 then (if l < 0 then 1 else 0) else (if 0 ≤ l then l else 0 - l)
def betL (A : LA) (r : Nat → Int32) (what : Int32) : Nat → Nat → Int32 → Int32
  | 0, _, l => betF what l
  | d + 1, j, l => betL A r what d (j + 1) (l + (if yearsR A r j 4 = 0 then weal (yearsR A r (j + 1)) - weal (yearsR A r j) else -(weal (yearsR A r (j + 1)) - weal (yearsR A r j))))
theorem betC_l {A : LA} {M : Mem} {what : Int32} {r : Nat → Int32} (hA : okA A) (hR : okR A 999 19980 r) : ∀ (d j fuel : Nat) (M1 : Mem) (l : Int32), cW A M (yearsR A r j) M1 → j + d = 60 → d < fuel → ∃ M2, fX12_better_l21 fuel M1 what l (nI j) = some (.ok (betL A r what d j l, M2)) ∧ RO M M2 := by
  intro d
  induction d with
  | zero =>
    intro j fuel M1 l w hj hf
    obtain ⟨m, rfl⟩ : ∃ m, fuel = m + 1 := ⟨fuel - 1, by omega⟩
    rw [fX12_better_l21, show (60 : Int32) = nI 60 from rfl, if_neg (by rw [lt_nI (by omega) (by decide)]; omega)]
    unfold betL betF
    by_cases hw : what = 0
    · rw [if_pos hw, if_pos hw]
      by_cases hl : l < 0
      · rw [if_pos hl, if_pos hl]; exact ⟨M1, rfl, w.1⟩
      · rw [if_neg hl, if_neg hl]; exact ⟨M1, rfl, w.1⟩
    · rw [if_neg hw, if_neg hw, pu_s]; exact ⟨M1, rfl, w.1⟩
  | succ d ih =>
    intro j fuel M1 l w hj hf
    obtain ⟨m, rfl⟩ : ∃ m, fuel = m + 1 := ⟨fuel - 1, by omega⟩
    obtain ⟨M2, h2, w2⟩ := c_pass hA w (okR_years hR hA (by decide) j (by omega)) (by omega) (by omega) (n := 1) (by decide)
    rw [years1] at w2
    rw [fX12_better_l21, show (60 : Int32) = nI 60 from rfl, if_pos (by rw [lt_nI (by omega) (by decide)]; omega), pu_s, wealth_eq (by decide), b1_s, show fX7_passMany M1 86 1 = _ from h2, b1_s, wealth_eq (by decide), b1_s, gC_f (by decide), w.2.2.1, w2.2.2.1]
    unfold fX12_better_b83
    simp only [pu_s]
    unfold betL
    by_cases hs : yearsR A r j 4 = 0
    · rw [if_pos hs, if_pos hs, nI_1]
      exact ih (j + 1) m M2 _ w2 (by omega) (by omega)
    · rw [if_neg hs, if_neg hs, nI_1]
      exact ih (j + 1) m M2 _ w2 (by omega) (by omega)
theorem neg_add9 (a b : Int32) : -(a + b) = -a + -b := by rw [Int32.neg_add, Int32.sub_eq_add_neg]
theorem betM_l {A : LA} {M : Mem} {what : Int32} {r : Nat → Int32} (hA : okA A) (hR : okR A 999 19980 r) : ∀ (d j fuel : Nat) (M1 : Mem) (l : Int32), mW A M (yearsR A r j) M1 → inZ l (2000 * j) → j + d = 60 → d < fuel → ∃ M2, fX13_better_l27 fuel M1 what (-l) (nI j) = some (betL A r what d j l, M2) ∧ RO M M2 ∧ gI M2 103 0 = 0 := by
  intro d
  induction d with
  | zero =>
    intro j fuel M1 l w hl hj hf
    obtain ⟨m, rfl⟩ : ∃ m, fuel = m + 1 := ⟨fuel - 1, by omega⟩
    rw [fX13_better_l27, show (60 : Int32) = nI 60 from rfl, if_neg (by rw [lt_nI (by omega) (by decide)]; omega)]
    unfold betL betF
    obtain ⟨hn, en⟩ := inZ_neg hl (by omega)
    unfold inZ at hl
    have iff1 : (0 < -l) ↔ l < 0 := by
      rw [Int32.lt_iff_toInt_lt, Int32.lt_iff_toInt_lt, en, show ((0 : Int32)).toInt = 0 from by decide]
      omega
    have iff2 : (0 ≤ l) ↔ ¬ l < 0 := by
      rw [Int32.le_iff_toInt_le, Int32.lt_iff_toInt_lt, show ((0 : Int32)).toInt = 0 from by decide]
      omega
    by_cases hw : what = 0
    · rw [if_pos hw, if_pos hw]
      by_cases h0 : l < 0
      · rw [if_pos (iff1.mpr h0), if_pos h0]; exact ⟨M1, rfl, w.1, w.2.2.2.2⟩
      · rw [if_neg (fun q => h0 (iff1.mp q)), if_neg h0]; exact ⟨M1, rfl, w.1, w.2.2.2.2⟩
    · rw [if_neg hw, if_neg hw]
      by_cases h0 : l < 0
      · rw [if_pos (iff1.mpr h0), if_neg (fun q => iff2.mp q h0), zsub]; exact ⟨M1, rfl, w.1, w.2.2.2.2⟩
      · rw [if_neg (fun q => h0 (iff1.mp q)), if_pos (iff2.mpr h0), zsub, Int32.neg_neg]; exact ⟨M1, rfl, w.1, w.2.2.2.2⟩
  | succ d ih =>
    intro j fuel M1 l w hl hj hf
    obtain ⟨m, rfl⟩ : ∃ m, fuel = m + 1 := ⟨fuel - 1, by omega⟩
    have hRj := okR_years hR hA (by decide) j (by omega)
    have hRj1 := okR_years hR hA (by decide) (j + 1) (by omega)
    obtain ⟨M2, h2, w2⟩ := m_goes hA w hRj (by omega) (by omega)
    rw [← yearsR_s] at w2
    rw [fX13_better_l27, show (60 : Int32) = nI 60 from rfl, if_pos (by rw [lt_nI (by omega) (by decide)]; omega), show (35 : Int32) = nI (31 + 4) from by decide, ldI_nI (by decide) (by decide), w.g (by decide), show (31 : Int32) = nI (31 + 0) from by decide, ldI_nI (by decide) (by decide), w.g (by decide), show (33 : Int32) = nI (31 + 2) from by decide, ldI_nI (by decide) (by decide), w.g (by decide), pu_s, show fX13_goesBy M1 (nI (31 + 0)) (-2) = _ from h2, b1_s, ldI_nI (by decide) (by decide), w2.g (by decide), ldI_nI (by decide) (by decide), w2.g (by decide), pu_s]
    unfold fX13_better_b103
    simp only [pu_s]
    unfold betL
    have hv := inZ_sub (weal_B hRj1) (weal_B hRj) (by decide)
    obtain ⟨u, hu1, hu2⟩ := hRj.2.2.2.2.1
    rw [show yearsR A r (j + 1) 0 - yearsR A r (j + 1) 2 - (yearsR A r j 0 - yearsR A r j 2) = weal (yearsR A r (j + 1)) - weal (yearsR A r j) from rfl]
    generalize weal (yearsR A r (j + 1)) - weal (yearsR A r j) = v at hv ⊢
    rcases (show u = 0 ∨ u = 1 by omega) with e | e <;> rw [e] at hu2
    · rw [hu2, if_neg (by decide), if_pos (show nI 0 = 0 from rfl), zsub, ← neg_add9, nI_1]
      exact ih (j + 1) m M2 _ w2 (inZ_mono (inZ_add hl hv (by omega)) (by omega)) (by omega) (by omega)
    · rw [hu2, if_pos (show nI 1 = 1 from rfl), if_neg (by decide), nI_1]
      have e9 : -l + v = -(l + -v) := by rw [neg_add9, Int32.neg_neg]
      rw [e9]
      exact ih (j + 1) m M2 _ w2 (inZ_mono (inZ_add hl (inZ_neg hv (by decide)).1 (by omega)) (by omega)) (by omega) (by omega)
theorem better_q {A : LA} {M : Mem} (h : Rel A M) (y : Int32) : qC (fX12_better M y) (fun M1 => fX13_better M1 y) M := by
  by_cases hy : y < 0 ∨ (1 : Int32) < y
  · refine ⟨.error 1, ?_, fun M1 f => ?_⟩
    · show fX12_better M y = _
      unfold fX12_better
      rw [needWhat_eq, if_pos hy, bE_er]
    · show simM (fX13_better M1 _) M1 _
      unfold fX13_better
      rw [pu_s, gW_eq m00, if_pos hy]
      exact sM_er M0_ro
  · refine ⟨.ok (betL A (rB M 0) y 60 0 0), ?_, fun M1 f => ?_⟩
    · obtain ⟨C1, c1, w1⟩ := c_start h RO.rf
      obtain ⟨C2, c2, f2⟩ := betC_l (what := y) h.1 h.okR 60 0 FU C1 0 w1 rfl (by decide)
      refine ⟨C2, ?_, f2⟩
      unfold fX12_better
      rw [needWhat_eq, if_neg hy, bE_ok, c1, b1_s]
      exact c2
    · obtain ⟨D1, d1, v1⟩ := m_start (h.ro f) M0_ro m00
      obtain ⟨D2, d2, f2, t2⟩ := betM_l (what := y) h.1 (h.ro f).okR 60 0 FU D1 0 v1 (by unfold inZ; decide) rfl (by decide)
      show simM (fX13_better M1 _) M1 _
      unfold fX13_better
      rw [pu_s, gW_eq m00, if_neg hy, d1, b1_s, show fX13_better_l27 FU D1 y 0 0 = _ from d2, f.rB]
      exact sM_ok f2 t2
