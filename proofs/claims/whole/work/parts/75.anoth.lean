/-! QUESTIONS: another deed -/
/-- deeds d to the last in year y; years y to the twelfth -/
def anI (R : Nat → Nat → Bool) (y : Nat) : Nat → Nat → Int32 × Int32 → Int32 × Int32
  | 0, _, s => s
  | d + 1, k, s => anI R y d (k + 1) (if R y k = true then (s.1 + 1, if s.2 = -1 then nI (10 * y + k) else s.2) else s)
def anO (R : Nat → Nat → Bool) (N : Nat) : Nat → Nat → Int32 × Int32 → Int32 × Int32
  | 0, _, s => s
  | c + 1, y, s => anO R N c (y + 1) (anI R y N 0 s)
def anS (w : Int32) (s : Int32 × Int32) : Int32 := if w = 0 then s.1 else s.2
theorem anI_k {R : Nat → Nat → Bool} {y : Nat} : ∀ (d k : Nat) (s : Int32 × Int32), ¬ s.2 = -1 → (anI R y d k s).2 = s.2 := by
  intro d
  induction d with
  | zero => intro k s h; rfl
  | succ d ih =>
    intro k s h
    unfold anI
    by_cases q : R y k = true
    · rw [if_pos q, ih _ _ (by show ¬ (if s.2 = -1 then nI (10 * y + k) else s.2) = -1; rw [if_neg h]; exact h)]
      exact if_neg h
    · rw [if_neg q, ih _ _ h]
theorem anO_k {R : Nat → Nat → Bool} {N : Nat} : ∀ (c y : Nat) (s : Int32 × Int32), ¬ s.2 = -1 → (anO R N c y s).2 = s.2 := by
  intro c
  induction c with
  | zero => intro y s h; rfl
  | succ c ih =>
    intro y s h
    unfold anO
    rw [ih _ _ (by rw [anI_k _ _ _ h]; exact h), anI_k _ _ _ h]
theorem pl10 {y k : Nat} : (10 : Int32) * nI y + nI k = nI (10 * y + k) := by
  rw [show (10 : Int32) = nI 10 from rfl, pk_mul, nI_add]
-- the class
theorem anoC_in {A : LA} {M : Mem} {n : Nat} {sy : Nat → Nat} {ss : Nat → Int32} {sp y c : Nat} {w : Int32} (h : Rel A M) (hC : seC n sy ss M) (hn : n ≤ 8) (hs : ∀ i, i < n → 1 ≤ sy i ∧ sy i ≤ 30) (hsp : sp ≤ 30) (hsl : ∀ j, j < n → sy j ≤ sp) (hy : y ≤ 12) (hw : w = 0 ∨ w = 1) (a : Mem → Int32 → Int32 → Int32 → Int32 → Option (Except Nat (Int32 × Mem)))
    (Ha : ∀ (M1 : Mem) (s : Int32 × Int32), RO M M1 → (w = 1 → s.2 = -1) → ∃ M2, a M1 w (nI sp) s.1 (nI (y + 1)) = some (.ok (anS w (anO (fun y k => fitB A (rB M 0) n sy ss y (nI k)) (aN A 0) c (y + 1) s), M2)) ∧ RO M M2) :
    ∀ (d k fuel : Nat) (M1 : Mem) (s : Int32 × Int32), RO M M1 → (w = 1 → s.2 = -1) → k + d = aN A 0 → d < fuel → ∃ M2, fX12_another_l61 a fuel M1 w (nI sp) s.1 (nI y) (nI k) = some (.ok (anS w (anO (fun y k => fitB A (rB M 0) n sy ss y (nI k)) (aN A 0) c (y + 1) (anI (fun y k => fitB A (rB M 0) n sy ss y (nI k)) y d k s)), M2)) ∧ RO M M2 := by
  have h7 := h.1.1
  intro d
  induction d with
  | zero =>
    intro k fuel M1 s f hs1 hk hf
    obtain ⟨m, rfl⟩ : ∃ m, fuel = m + 1 := ⟨fuel - 1, by omega⟩
    have hL := (h.ro f).2.1
    rw [fX12_another_l61, pu_s, ck_t hL.1, pu_s, hL.2.1, if_neg (by rw [lt_nI (by omega) (by omega)]; omega), pu_s, nI_1]
    exact Ha M1 s f hs1
  | succ d ih =>
    intro k fuel M1 s f hs1 hk hf
    obtain ⟨m, rfl⟩ : ∃ m, fuel = m + 1 := ⟨fuel - 1, by omega⟩
    have hL := (h.ro f).2.1
    have hk7 : k < aN A 0 := by omega
    obtain ⟨M2, p1, p2, p3, p4⟩ := fits_ok (y := y) (D := nI k) h f hC hn hs (Or.inr ⟨k, hk7, rfl⟩) (by omega) hsp hsl
    have b116 : ∀ s' : Int32 × Int32, (w = 1 → s'.2 = -1) → ∃ M9, fX12_another_b116 a (fX12_another_l61 a m) M2 w (nI sp) s'.1 (nI y) (nI k) = some (.ok (anS w (anO (fun y k => fitB A (rB M 0) n sy ss y (nI k)) (aN A 0) c (y + 1) (anI (fun y k => fitB A (rB M 0) n sy ss y (nI k)) y d (k + 1) s')), M9)) ∧ RO M M9 := by
      intro s' q
      unfold fX12_another_b116
      rw [pu_s, nI_1]
      exact ih (k + 1) m M2 s' p2 q (by omega) (by omega)
    rw [fX12_another_l61, pu_s, ck_t hL.1, pu_s, hL.2.1, if_pos (by rw [lt_nI (by omega) (by omega)]; omega), p1, b2_s, anI]
    by_cases q : fitB A (rB M 0) n sy ss y (nI k) = true
    · rw [if_pos q, if_pos q, if_neg (show ¬ (1 : Int32) = 0 by decide)]
      rcases hw with hw | hw
      · subst hw
        rw [if_neg (show ¬ (0 : Int32) = 1 by decide), pu_s]
        exact b116 (s.1 + 1, if s.2 = -1 then nI (10 * y + k) else s.2) (fun z => absurd z (by decide))
      · subst hw
        rw [if_pos (show (1 : Int32) = 1 from rfl), pl10]
        refine ⟨M2, ?_, p2⟩
        have e2 : ¬ (if s.2 = -1 then nI (10 * y + k) else s.2) = -1 := by rw [if_pos (hs1 rfl)]; exact nI_neg1 (by omega)
        have : anS 1 (anO (fun y k => fitB A (rB M 0) n sy ss y (nI k)) (aN A 0) c (y + 1) (anI (fun y k => fitB A (rB M 0) n sy ss y (nI k)) y d (k + 1) (s.1 + 1, if s.2 = -1 then nI (10 * y + k) else s.2))) = nI (10 * y + k) := by
          unfold anS
          rw [if_neg (by decide), anO_k _ _ _ (by rw [anI_k _ _ _ e2]; exact e2), anI_k _ _ _ e2]
          exact if_pos (hs1 rfl)
        rw [this]
    · rw [if_neg q, if_neg q, if_pos (show (0 : Int32) = 0 from rfl)]
      exact b116 s hs1
theorem anoC_out {A : LA} {M : Mem} {n : Nat} {sy : Nat → Nat} {ss : Nat → Int32} {sp : Nat} {w : Int32} (h : Rel A M) (hC : seC n sy ss M) (hn : n ≤ 8) (hs : ∀ i, i < n → 1 ≤ sy i ∧ sy i ≤ 30) (hsp : sp ≤ 30) (hsl : ∀ j, j < n → sy j ≤ sp) (hw : w = 0 ∨ w = 1) : ∀ (c y fuel : Nat) (M1 : Mem) (s : Int32 × Int32), RO M M1 → (w = 1 → s.2 = -1) → y + c = 13 → c < fuel → ∃ M2, fX12_another_l51 fuel M1 w (nI sp) s.1 (nI y) = some (.ok (anS w (anO (fun y k => fitB A (rB M 0) n sy ss y (nI k)) (aN A 0) c y s), M2)) ∧ RO M M2 := by
  have h7 := h.1.1
  intro c
  induction c with
  | zero =>
    intro y fuel M1 s f hs1 hy hf
    obtain ⟨m, rfl⟩ : ∃ m, fuel = m + 1 := ⟨fuel - 1, by omega⟩
    refine ⟨M1, ?_, f⟩
    rw [fX12_another_l51, show (12 : Int32) = nI 12 from rfl, if_pos (by rw [lt_nI (by omega) (by omega)]; omega), anO]
    unfold anS
    rcases hw with hw | hw
    · rw [if_pos hw, if_pos hw]
    · have w0 : ¬ w = 0 := by rw [hw]; decide
      rw [if_neg w0, if_neg w0, hs1 hw]
  | succ c ih =>
    intro y fuel M1 s f hs1 hy hf
    obtain ⟨m, rfl⟩ : ∃ m, fuel = m + 1 := ⟨fuel - 1, by omega⟩
    rw [fX12_another_l51, show (12 : Int32) = nI 12 from rfl, if_neg (by rw [lt_nI (by omega) (by omega)]; omega), anO]
    exact anoC_in (c := c) h hC hn hs hsp hsl (by omega) hw (fX12_another_l51 m) (fun M2 s' f2 q => ih (y + 1) m M2 s' f2 q (by omega) (by omega)) (aN A 0) 0 FU M1 s f hs1 (by omega) (by show _ < 100000; omega)
-- the reference
theorem anoM_in {A : LA} {M : Mem} {n : Nat} {sy : Nat → Nat} {ss : Nat → Int32} {y : Nat} {w : Int32} (h : Rel A M) (hM : seM n sy ss M) (hn : n ≤ 8) (hs : ∀ i, i < n → 1 ≤ sy i ∧ sy i ≤ 30) (hy : y ≤ 12) (a : Mem → Int32 → Int32 → Int32 → Int32 → Option (Int32 × Mem)) :
    ∀ (d k fuel : Nat) (M1 : Mem) (s : Int32 × Int32), RO M M1 → gI M1 103 0 = 0 → k + d = aN A 0 → d < fuel → ∃ M2, fX13_another_l53 a fuel M1 w s.1 s.2 (nI y) (nI k) = a M2 w (anI (fun y k => fitB A (rB M 0) n sy ss y (nI k)) y d k s).1 (anI (fun y k => fitB A (rB M 0) n sy ss y (nI k)) y d k s).2 (nI (y + 1)) ∧ RO M M2 ∧ gI M2 103 0 = 0 := by
  have h7 := h.1.1
  intro d
  induction d with
  | zero =>
    intro k fuel M1 s f h0 hk hf
    obtain ⟨m, rfl⟩ : ∃ m, fuel = m + 1 := ⟨fuel - 1, by omega⟩
    have hL := (h.ro f).2.2.1
    rw [fX13_another_l53, pu_s, hL.1, if_neg (by rw [lt_nI (by omega) (by omega)]; omega), pu_s, nI_1]
    exact ⟨M1, rfl, f, h0⟩
  | succ d ih =>
    intro k fuel M1 s f h0 hk hf
    obtain ⟨m, rfl⟩ : ∃ m, fuel = m + 1 := ⟨fuel - 1, by omega⟩
    have hL := (h.ro f).2.2.1
    have hk7 : k < aN A 0 := by omega
    obtain ⟨M2, p1, p2, p3, p4, p5⟩ := isSeen_ok (y := y) (D := nI k) h f h0 hM hn hs (Or.inr ⟨k, hk7, rfl⟩) (by omega)
    have b93 : ∀ s' : Int32 × Int32, ∃ M9, fX13_another_b93 a (fX13_another_l53 a m) M2 w s'.1 s'.2 (nI y) (nI k) = a M9 w (anI (fun y k => fitB A (rB M 0) n sy ss y (nI k)) y d (k + 1) s').1 (anI (fun y k => fitB A (rB M 0) n sy ss y (nI k)) y d (k + 1) s').2 (nI (y + 1)) ∧ RO M M9 ∧ gI M9 103 0 = 0 := by
      intro s'
      unfold fX13_another_b93
      rw [pu_s, nI_1]
      exact ih (k + 1) m M2 s' p2 p3 (by omega) (by omega)
    rw [fX13_another_l53, pu_s, hL.1, if_pos (by rw [lt_nI (by omega) (by omega)]; omega), p1, b2_s, anI]
    by_cases q : fitB A (rB M 0) n sy ss y (nI k) = true
    · rw [if_pos q, if_pos q, if_neg (show ¬ (1 : Int32) = 0 by decide), pu_s]
      by_cases q2 : s.2 = -1
      · rw [if_pos q2, if_pos q2, pl10, pu_s]
        exact b93 (s.1 + 1, nI (10 * y + k))
      · rw [if_neg q2, if_neg q2]
        exact b93 (s.1 + 1, s.2)
    · rw [if_neg q, if_neg q, if_pos (show (0 : Int32) = 0 from rfl)]
      exact b93 s
theorem anoM_out {A : LA} {M : Mem} {n : Nat} {sy : Nat → Nat} {ss : Nat → Int32} {w : Int32} (h : Rel A M) (hM : seM n sy ss M) (hn : n ≤ 8) (hs : ∀ i, i < n → 1 ≤ sy i ∧ sy i ≤ 30) : ∀ (c y fuel : Nat) (M1 : Mem) (s : Int32 × Int32), RO M M1 → gI M1 103 0 = 0 → y + c = 13 → c < fuel → ∃ M2, fX13_another_l43 fuel M1 w s.1 s.2 (nI y) = some (anS w (anO (fun y k => fitB A (rB M 0) n sy ss y (nI k)) (aN A 0) c y s), M2) ∧ RO M M2 ∧ gI M2 103 0 = 0 := by
  have h7 := h.1.1
  intro c
  induction c with
  | zero =>
    intro y fuel M1 s f h0 hy hf
    obtain ⟨m, rfl⟩ : ∃ m, fuel = m + 1 := ⟨fuel - 1, by omega⟩
    refine ⟨M1, ?_, f, h0⟩
    rw [fX13_another_l43, show (12 : Int32) = nI 12 from rfl, if_pos (by rw [lt_nI (by omega) (by omega)]; omega), anO]
    unfold anS
    by_cases w0 : w = 0
    · rw [if_pos w0, if_pos w0]
    · rw [if_neg w0, if_neg w0]
  | succ c ih =>
    intro y fuel M1 s f h0 hy hf
    obtain ⟨m, rfl⟩ : ∃ m, fuel = m + 1 := ⟨fuel - 1, by omega⟩
    obtain ⟨M2, p1, p2, p3⟩ := anoM_in (w := w) h hM hn hs (y := y) (by omega) (fX13_another_l43 m) (aN A 0) 0 FU M1 s f h0 (by omega) (by show _ < 100000; omega)
    rw [fX13_another_l43, show (12 : Int32) = nI 12 from rfl, if_neg (by rw [lt_nI (by omega) (by omega)]; omega), anO, show fX13_another_l53 (fX13_another_l43 m) FU M1 w s.1 s.2 (nI y) 0 = _ from p1]
    exact ih (y + 1) m M2 _ p2 p3 (by omega) (by omega)
theorem another_q {A : LA} {M : Mem} (h : Rel A M) (x : Int32) : qC (fX12_another M x) (fun M1 => fX13_another M1 x) M := by
  obtain ⟨n, sy, ss, hn, hs, hC, hM⟩ := h.se
  by_cases hx : x < 0 ∨ (2 : Int32) < x
  · refine ⟨.error 1, ?_, fun M1 f => ?_⟩
    · show fX12_another M x = _
      unfold fX12_another
      rw [needWhat_eq, if_pos hx, bE_er]
    · show simM (fX13_another M1 _) M1 _
      unfold fX13_another
      rw [pu_s, gW_eq m00, if_pos hx]
      exact sM_er M0_ro
  · obtain ⟨sp, l1, l2, l3⟩ := last_ok hC hn (fun i hi => (hs i hi).2)
    by_cases h2 : x = 2
    · refine ⟨.ok (if fitB A (rB M 0) n sy ss 0 (-1) = true then 1 else 0), ?_, fun M1 f => ?_⟩
      · obtain ⟨C1, c1, c2, c3⟩ := fits_ok (y := 0) (D := -1) h RO.rf hC hn hs (Or.inl rfl) (by decide) l1 l3
        refine ⟨C1, ?_, c2⟩
        unfold fX12_another
        rw [needWhat_eq, if_neg hx, bE_ok, l2, b1_s, if_pos h2, show fX2_fits M 81 93 0 (-1) (nI sp) = _ from c1, b2_s]
        by_cases q : fitB A (rB M 0) n sy ss 0 (-1) = true
        · rw [if_pos q, if_neg (by decide)]
        · rw [if_neg q, if_pos rfl]
      · show simM (fX13_another M1 _) M1 _
        obtain ⟨D1, d1, d2, d3, d4⟩ := isSeen_ok (y := 0) (D := -1) (h.ro f) M0_ro m00 (hM.ro f) hn hs (Or.inl rfl) (by decide)
        unfold fX13_another
        rw [pu_s, gW_eq m00, if_neg hx, if_pos h2, show fX13_isSeen (sI M1 103 0 0) 0 (-1) = _ from d1, b2_s, f.rB]
        by_cases q : fitB A (rB M 0) n sy ss 0 (-1) = true
        · rw [if_pos q, if_neg (by decide)]
          exact sM_ok d2 d3
        · rw [if_neg q, if_pos rfl]
          exact sM_ok d2 d3
    · have hw : x = 0 ∨ x = 1 := by
        obtain ⟨k, hk, ek⟩ := lt_of (n := 2) hx (by decide)
        rcases (show k = 0 ∨ k = 1 ∨ k = 2 by omega) with q | q | q
        · left; rw [ek, q]; rfl
        · right; rw [ek, q]; rfl
        · exact absurd (by rw [ek, q]; rfl) h2
      refine ⟨.ok (anS x (anO (fun y k => fitB A (rB M 0) n sy ss y (nI k)) (aN A 0) 12 1 (0, -1))), ?_, fun M1 f => ?_⟩
      · obtain ⟨C1, c1, c2⟩ := anoC_out h hC hn hs l1 l3 hw 12 1 FU M (0, -1) RO.rf (fun _ => rfl) (by omega) (by show _ < 100000; omega)
        refine ⟨C1, ?_, c2⟩
        unfold fX12_another
        rw [needWhat_eq, if_neg hx, bE_ok, l2, b1_s, if_neg h2]
        exact c1
      · show simM (fX13_another M1 _) M1 _
        obtain ⟨D1, d1, d2, d3⟩ := anoM_out (w := x) (h.ro f) (hM.ro f) hn hs 12 1 FU (sI M1 103 0 0) (0, -1) M0_ro m00 (by omega) (by show _ < 100000; omega)
        unfold fX13_another
        rw [pu_s, gW_eq m00, if_neg hx, if_neg h2, show fX13_another_l43 FU (sI M1 103 0 0) x 0 (-1) 1 = _ from d1, f.rB]
        exact sM_ok d2 d3
