/-! THE CLASS: years -/
def ruleC (M : Mem) (o : Nat) (l : List Int32) : Prop := ∃ s : Nat, gI M o 1 = nI s ∧ gI M o 2 = nI (s + l.length) ∧ s + l.length ≤ 700 ∧ ∀ i (h : i < l.length), gI M (rcT o) (s + i) = l[i]
/-- the land A in the object L -/
def landC (A : LA) (M : Mem) (L : Nat) : Prop := gI M L 0 = nI (aN A 0) ∧ gI M L 6 = nI (aN A 1) ∧ gI M L 8 = nI (aN A 2) ∧ gI M (L + 8) 0 = nI (aN A 3) ∧ gI M (L + 11) 0 = nI (aN A 4) ∧ gI M (L + 5) 0 = nI (aN A 5) ∧ gI M (L + 5) 1 = nI (aN A 6) ∧
  (∀ d, d < aN A 0 → gI M (L + 1) d = aF A 0 d ∧ gI M (L + 2) d = aF A 1 d ∧ gI M (L + 3) d = aF A 2 d ∧ gI M (L + 4) d = aF A 3 d) ∧ (∀ i, i < aN A 1 → gI M (L + 6) i = aF A 4 i) ∧ (∀ i, i < aN A 2 → gI M (L + 7) i = aF A 5 i) ∧
  (∀ i, i < aN A 3 → gI M (L + 9) i = aF A 6 i ∧ gI M (L + 10) i = aF A 7 i) ∧ (∀ i, i < aN A 4 → gI M (L + 12) i = aF A 8 i ∧ gI M (L + 13) i = aF A 9 i) ∧ ruleC M (L + 15) (aC A 0) ∧ ruleC M (L + 16) (aC A 1) ∧ (gI M (L + 15) 3 = 0 → ∀ x ∈ aC A 0, x ≠ -6)
def LandC (A : LA) (M : Mem) : Prop := kd (gR M 28 0) = 4 ∧ landC A M (gR M 28 0)
theorem land_cases {L : Nat} (h : kd L = 4) : L = 4 ∨ L = 29 := (by decide +kernel : ∀ o, o < KN → kd o = 4 → o = 4 ∨ o = 29) L (kd_lt (by rw [h]; decide)) h
theorem city_cases {k : Nat} (h : kd k = 2) : k = 21 ∨ 50 ≤ k := (by decide +kernel : ∀ o, o < KN → kd o = 2 → o = 21 ∨ 50 ≤ o) k (kd_lt (by rw [h]; decide)) h
theorem city_k {k : Nat} (h : kd k = 2) : kd (k + 1) = 20 ∧ ln (k + 1) = 2 ∧ kd (k + 2) = 20 ∧ ln (k + 2) = 2 ∧ kd (k + 3) = 20 ∧ ln (k + 3) = 12 ∧ kd (k + 4) = 20 ∧ ln (k + 4) = 6 := ⟨kf2_1 h, lf2_1 h, kf2_2 h, lf2_2 h, kf2_3 h, lf2_3 h, kf2_4 h, lf2_4 h⟩
theorem rcT_land {L : Nat} (h : kd L = 4) : rcT (L + 15) = L + 14 ∧ rcT (L + 16) = L + 14 ∧ kd (L + 15) = 7 ∧ kd (L + 16) = 7 := by
  rcases land_cases h with e | e <;> subst e <;> decide
theorem landC.mv {A : LA} {M M' : Mem} {L : Nat} (hL : kd L = 4) (h : landC A M L) (f : ∀ a j, L ≤ a → a ≤ L + 16 → gI M' a j = gI M a j) : landC A M' L := by
  obtain ⟨h1, h2, h3, h4, h5, h6, h7, h8, h9, h10, h11, h12, h13, h14, h15⟩ := h
  have gr : ∀ {o : Nat} {l : List Int32}, o = L + 15 ∨ o = L + 16 → ruleC M o l → ruleC M' o l := by
    intro o l ho hr
    obtain ⟨s, q1, q2, q3, q4⟩ := hr
    have hrc : rcT o = L + 14 := by rcases ho with e | e <;> rw [e]; exact (rcT_land hL).1; exact (rcT_land hL).2.1
    refine ⟨s, by rw [f o 1 (by omega) (by omega)]; exact q1, by rw [f o 2 (by omega) (by omega)]; exact q2, q3, fun i hi => ?_⟩
    rw [hrc, f (L + 14) _ (by omega) (by omega), ← hrc]
    exact q4 i hi
  refine ⟨by rw [f L 0 (by omega) (by omega)]; exact h1, by rw [f L 6 (by omega) (by omega)]; exact h2, by rw [f L 8 (by omega) (by omega)]; exact h3, by rw [f (L + 8) 0 (by omega) (by omega)]; exact h4, by rw [f (L + 11) 0 (by omega) (by omega)]; exact h5, by rw [f (L + 5) 0 (by omega) (by omega)]; exact h6, by rw [f (L + 5) 1 (by omega) (by omega)]; exact h7, fun d hd => ?_, fun i hi => ?_, fun i hi => ?_, fun i hi => ?_, fun i hi => ?_, gr (Or.inl rfl) h13, gr (Or.inr rfl) h14, fun hz => h15 (by rw [f (L + 15) 3 (by omega) (by omega)] at hz; exact hz)⟩
  · rw [f (L + 1) d (by omega) (by omega), f (L + 2) d (by omega) (by omega), f (L + 3) d (by omega) (by omega), f (L + 4) d (by omega) (by omega)]; exact h8 d hd
  · rw [f (L + 6) i (by omega) (by omega)]; exact h9 i hi
  · rw [f (L + 7) i (by omega) (by omega)]; exact h10 i hi
  · rw [f (L + 9) i (by omega) (by omega), f (L + 10) i (by omega) (by omega)]; exact h11 i hi
  · rw [f (L + 12) i (by omega) (by omega), f (L + 13) i (by omega) (by omega)]; exact h12 i hi
theorem LandC.mv {A : LA} {M M' : Mem} (h : LandC A M) (e : gR M' 28 0 = gR M 28 0) (f : ∀ a j, (4 ≤ a ∧ a ≤ 20 ∨ 29 ≤ a ∧ a ≤ 45) → gI M' a j = gI M a j) : LandC A M' := by
  unfold LandC at h ⊢
  rw [e]
  refine ⟨h.1, h.2.mv h.1 fun a j x y => f a j ?_⟩
  rcases land_cases h.1 with q | q <;> rw [q] at x y <;> omega
theorem gR_2 {M M' : Mem} (h : M'.2 = M.2) (a j : Nat) : gR M' a j = gR M a j := by
  unfold gR
  rw [h]
theorem LandC.fr {A : LA} {M M' : Mem} {k : Nat} (h : LandC A M) (hk : kd k = 2) (f : frC k M M') : LandC A M' := h.mv (gR_2 f.2 _ _) fun a j x => f.1 a j (by have := city_cases hk; omega) (by omega) (by omega) (by omega)
theorem rC_fr {M M' : Mem} {k c : Nat} (f : frC c M M') (hk : kd k = 2) (h : k + 4 < c ∨ c + 4 < k) : rC M' k = rC M k := by
  funext j
  unfold rC
  by_cases hj : j < 31
  · have := pl_4 j hj
    have := city_cases hk
    rw [if_pos hj, if_pos hj, f.1 _ _ (by omega) (by omega) (by omega) (by omega)]
  · rw [if_neg hj, if_neg hj]
/-- scratch of the class's rules -/
def frK (M M' : Mem) : Prop := (∀ a j, a ≠ 46 → a ≠ 47 → a ≠ 48 → gI M' a j = gI M a j) ∧ M'.2 = M.2
theorem frK.rf {M : Mem} : frK M M := ⟨fun _ _ _ _ _ => rfl, rfl⟩
theorem frK.tr {M M1 M2 : Mem} (h : frK M M1) (h2 : frK M1 M2) : frK M M2 := ⟨fun a j x y z => (h2.1 a j x y z).trans (h.1 a j x y z), h2.2.trans h.2⟩
theorem frK.st {M M1 : Mem} {a i : Nat} {v : Int32} (h : frK M M1) (ha : a = 46 ∨ a = 47 ∨ a = 48) : frK M (sI M1 a i v) := ⟨fun c j x y z => by rw [gI_sa (by omega)]; exact h.1 c j x y z, h.2⟩
theorem frK.s {M M1 M2 : Mem} (h : frK M M1) (h2 : frS M1 M2) : frK M M2 := ⟨fun a j x y z => (h2.1 a j z).trans (h.1 a j x y z), h2.2.trans h.2⟩
theorem frK.C {M M' : Mem} (k : Nat) (f : frK M M') : frC k M M' := ⟨fun a j _ y z u => f.1 a j y z u, f.2⟩
theorem rC_k {M M' : Mem} {k : Nat} (f : frK M M') (hk : kd k = 2) : rC M' k = rC M k := by
  funext j
  unfold rC
  by_cases hj : j < 31
  · have := pl_4 j hj
    have := city_cases hk
    rw [if_pos hj, if_pos hj, f.1 _ _ (by omega) (by omega) (by omega)]
  · rw [if_neg hj, if_neg hj]
theorem LandC.k {A : LA} {M M' : Mem} (h : LandC A M) (f : frK M M') : LandC A M' := h.mv (gR_2 f.2 _ _) fun a j x => f.1 a j (by omega) (by omega) (by omega)
theorem max_kpt (a n : Int32) (hn : 0 ≤ n.toInt) : (if 0 < (if a < n then a else n) then (if a < n then a else n) else 0) = kpt a 0 n := by
  unfold kpt
  simp only [Int32.lt_iff_toInt_lt, show ((0 : Int32)).toInt = 0 from by decide]
  by_cases h1 : a.toInt < n.toInt
  · rw [if_pos h1]
    by_cases h2 : 0 < a.toInt
    · rw [if_pos h2, if_neg (by omega), if_neg (by omega)]
    · rw [if_neg h2]
      by_cases h3 : a.toInt < 0
      · rw [if_pos h3]
      · rw [if_neg h3, if_neg (by omega)]
        rw [← Int32.toInt_inj, show ((0 : Int32)).toInt = 0 from by decide]; omega
  · rw [if_neg h1, if_neg (show ¬ a.toInt < 0 by omega)]
    by_cases h2 : 0 < n.toInt
    · rw [if_pos h2]
      by_cases h3 : n.toInt < a.toInt
      · rw [if_pos h3]
      · rw [if_neg h3, ← Int32.toInt_inj]; omega
    · rw [if_neg h2]
      by_cases h3 : n.toInt < a.toInt
      · rw [if_pos h3, ← Int32.toInt_inj, show ((0 : Int32)).toInt = 0 from by decide]; omega
      · rw [if_neg h3, ← Int32.toInt_inj, show ((0 : Int32)).toInt = 0 from by decide]; omega
theorem min_kpt (a n : Int32) (h0 : 0 ≤ a.toInt) : (if a < n then a else n) = kpt a 0 n := by
  unfold kpt
  simp only [Int32.lt_iff_toInt_lt, show ((0 : Int32)).toInt = 0 from by decide]
  rw [if_neg (show ¬ a.toInt < 0 by omega)]
  by_cases h1 : a.toInt < n.toInt
  · rw [if_pos h1, if_neg (by omega)]
  · rw [if_neg h1]
    by_cases h3 : n.toInt < a.toInt
    · rw [if_pos h3]
    · rw [if_neg h3, ← Int32.toInt_inj]; omega
theorem reap_ok {A : LA} {M : Mem} {k Y Z : Nat} {h : Int32} (hk : kd k = 2) (hR : okR A Y Z (rC M k)) (hh : inB h 99) : ∃ M', fX7_reap M k h = some M' ∧ rC M' k = gathR (rC M k) h ∧ frC k M M' := by
  have gC : ∀ i, i < 6 → gI M k i = rC M k i := fun i q => gC_f q
  obtain ⟨s, hs, es⟩ := hR.1
  obtain ⟨d, hd, ed⟩ := hR.2.2.1
  obtain ⟨x, hx, ex⟩ := hh
  refine ⟨sI (sI M k 0 (kpt (rC M k 0 + h) 0 999)) k 2 (kpt (rC M k 2 + rC M k 2 / 10) 0 999), ?_, ?_, ?_⟩
  · unfold fX7_reap
    simp (disch := omega) only [ck_t hk, pu_s, gI_sj, gC]
    rw [min_kpt _ _ (by rw [es, ex, nI_add, nI_toInt (by omega)]; omega), min_kpt (rC M k 2 + rC M k 2 / 10) _ (by rw [ed, show (10 : Int32) = nI 10 from rfl, pk_div (by omega) (by decide) (by decide), nI_add, nI_toInt (by omega)]; omega)]
  · rw [rC_f (by decide), rC_f (by decide)]
    rfl
  · exact (frC.rf.st (by omega)).st (by omega)
theorem perform_ok {A : LA} {M : Mem} {k Y Z : Nat} {d : Int32} (hL : LandC A M) (hA : okA A) (hk : kd k = 2) (hd : dOk A d) (hR : okR A Y Z (rC M k)) :
    ∃ M', fX7_perform M k d = some (if (doX A (rC M k) d).1 = true then 1 else 0, M') ∧ rC M' k = (doX A (rC M k) d).2 ∧ frC k M M' := by
  have gC : ∀ i, i < 6 → gI M k i = rC M k i := fun i q => gC_f q
  have h7 := hA.1
  have hkk := city_cases hk
  unfold fX7_perform
  rw [ck_t hk]
  rcases hd with e | ⟨n, hn, e⟩ <;> subst e
  · rw [doX_m1, if_pos (by decide)]
    exact ⟨M, rfl, rfl, frC.rf⟩
  · rw [doX_n (by omega)]
    obtain ⟨hL4, hl⟩ := hL
    have hLc := land_cases hL4
    generalize hLL : gR M 28 0 = L at hL4 hl hLc
    obtain ⟨e1, e2, e3, e4⟩ := hl.2.2.2.2.2.2.2.1 n hn
    obtain ⟨hr1, hr2⟩ := ruler_lt hR
    have g28 : ∀ {M1 : Mem} {a j : Nat} {v : Int32}, gR (sI M1 a j v) 28 0 = gR M1 28 0 := gR_sI
    rw [if_neg (nI_pos (by omega))]
    simp only [pu_s, hLL, ck_t hL4, hl.1]
    rw [if_pos (by rw [lt_nI (by omega) (by omega)]; exact hn), ldI_nI (by omega) (by decide), e1, gC 0 (by decide)]
    unfold doR
    by_cases hc : rC M k 0 < aF A 0 n
    · rw [if_pos hc, if_pos hc]
      refine ⟨sI M k 6 (rC M k 8 + 1), ?_, ?_, frC.rf.st (by omega)⟩
      · rw [gC_f6]; rfl
      · rw [rC_f6]
    · rw [if_neg hc, if_neg hc]
      refine ⟨sI (sI (sI (sI M k 0 (rC M k 0 - aF A 0 n)) k 1 (kpt (rC M k 1 + aF A 1 n) 0 99)) k 2 (kpt (rC M k 2 + aF A 2 n) 0 999)) (k + 2) (ruler (rC M k)) (rC M k (6 + ruler (rC M k)) + aF A 3 n), ?_, ?_, ?_⟩
      · rw [ldI_nI (by omega) (by decide), e1]
        simp only [g28, hLL, ck_t hL4]
        have m99 := fun a => max_kpt a 99 (by decide)
        have m999 := fun a => max_kpt a 999 (by decide)
        have gA : gI M (k + 2) (ruler (rC M k)) = rC M k (6 + ruler (rC M k)) := gC_a2 hr1
        simp (disch := omega) only [ldI_nI, stI_nI, gI_sa, gI_sj, gC, e2, e3, e4, m99, m999, hr2, gA]
        rfl
      · rw [rC_a2 hr1, rC_f (by decide), rC_f (by decide), rC_f (by decide)]
      · exact (((frC.rf.st (by omega)).st (by omega)).st (by omega)).st (by omega)
theorem age_ok {A : LA} {M : Mem} {k Y Z : Nat} (hk : kd k = 2) (hR : okR A Y Z (rC M k)) : ∃ M', fX7_age M k = some M' ∧ rC M' k = ageR (rC M k) ∧ frC k M M' := by
  have gC : ∀ i, i < 6 → gI M k i = rC M k i := fun i q => gC_f q
  obtain ⟨hr1, hr2⟩ := ruler_lt hR
  refine ⟨sI (sI (sI M k 3 (rC M k 3 + 1)) (k + 1) (ruler (rC M k)) (rC M k (10 + ruler (rC M k)) + 1)) k 5 (rC M k 5 + 1), ?_, ?_, ?_⟩
  · unfold fX7_age
    simp only [ck_t hk, pu_s]
    rw [gI_sj (by decide), gC 4 (by decide), hr2, ldI_nI hr1 (by decide), stI_nI hr1 (by decide), gI_sa (by omega), gI_sa (by omega), gI_sj (by decide), gC_a1 hr1, gC 3 (by decide), gC 5 (by decide)]
  · rw [rC_f (by decide), rC_a1 hr1, rC_f (by decide)]
    rfl
  · exact ((frC.rf.st (by omega)).st (by omega)).st (by omega)
