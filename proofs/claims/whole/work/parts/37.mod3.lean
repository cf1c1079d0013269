/-! THE REFERENCE: a year, years -/
theorem stay_ok {A : LA} {M : Mem} {b Y Z : Nat} (hL : LandM A M) (hA : okA A) (hb : b + 31 ≤ 186) (hR : okR A Y Z (rB M b)) :
    ∃ M', fX13_isStaying M (nI b) = some (if stayR A (rB M b) = true then 1 else 0, M') ∧ frT M M' := by
  have gB : ∀ i, i < 31 → gI M 133 (b + i) = rB M b i := fun i h => rB_g h
  have g0 : gI M 133 b = rB M b 0 := rB_g (i := 0) (by decide)
  obtain ⟨hr1, hr2⟩ := ruler_lt hR
  have hs := hL.2.2.2.2.2.2.2.2.2.2.2.2.1
  have hlen := hL.2.2.2.2.2.2.2.2.2.2.2.2.2.2 0 (by decide)
  unfold ruleM at hs
  unfold fX13_isStaying stayR
  rw [pu_s]
  by_cases hc : aC A 0 = []
  · rw [if_pos hc] at hs
    rw [if_pos hc, hs, if_pos rfl]
    exact ⟨M, rfl, frT.rf⟩
  · rw [if_neg hc] at hs
    obtain ⟨p, hp, hat, hen⟩ := hs
    rcases hA.2.2.2.2.2.2.2.2.2.2.2.2 0 (by decide) with hok | ⟨hwf, hix⟩
    · exact absurd hok hc
    rw [if_neg hc, hat, if_neg (nI_neg1 (by omega)), show (4 : Int32) = nI 4 from rfl, nI_add, ldI_nI (by omega) (by decide), gB 4 (by decide), hr2]
    obtain ⟨M1, h1, f1⟩ := followers_ok hL hA hb hr1
    rw [h1, b2_s, men_ok hA (hL.frT f1), b1_s]
    generalize hmen : menN A (folN A (rB M b) (ruler (rB M b)) (aN A 2)) (aN A 2) = mm
    have gM : ∀ a j, a ≠ 135 → a ≠ 136 → gI M1 a j = gI M a j := f1.1
    rw [show (1 : Int32) = nI 1 from rfl, show (3 : Int32) = nI 3 from rfl, show (6 : Int32) = nI 6 from rfl, show (2 : Int32) = nI 2 from rfl, show (5 : Int32) = nI 5 from rfl, show (0 : Int32) = nI 0 from rfl]
    simp (disch := omega) only [nI_add, ldI_nI, stI_nI, gI_sa, gM, Nat.add_zero, Nat.add_assoc, gB, g0, pu_s, ne_eq]
    rw [hat]
    obtain ⟨M2, h2, f2⟩ := reckons_ok (v := stayV A (rB M b)) (km := kmS) kmS_lt (l := aC A 0) (M := sI (sI (sI (sI (sI (sI M1 135 0 (rB M b 1)) 135 1 (rB M b 3)) 135 2 mm) 135 3 (rB M b 0)) 135 4 (rB M b 2)) 135 5 (rB M b (6 + ruler (rB M b)))) (p := p) hwf (by omega) (encM_congr _ _ hen (fun i => by rw [gI_sa (by decide), gI_sa (by decide), gI_sa (by decide), gI_sa (by decide), gI_sa (by decide), gI_sa (by decide), gM _ _ (by decide) (by decide)])) (fun x hx q1 q2 => by
      have hi := hix x hx q1 q2
      generalize ((-1) - x).toNatClampNeg = i at hi ⊢
      rcases (show i = 0 ∨ i = 1 ∨ i = 2 ∨ i = 3 ∨ i = 4 ∨ i = 5 by omega) with h | h | h | h | h | h <;> subst h
      · show gI _ 135 3 = _
        rw [gI_sj (by decide), gI_sj (by decide), gI_ss]; rfl
      · show gI _ 135 0 = _
        rw [gI_sj (by decide), gI_sj (by decide), gI_sj (by decide), gI_sj (by decide), gI_sj (by decide), gI_ss]; rfl
      · show gI _ 135 4 = _
        rw [gI_sj (by decide), gI_ss]; rfl
      · show gI _ 135 5 = _
        rw [gI_ss]; rfl
      · show gI _ 135 1 = _
        rw [gI_sj (by decide), gI_sj (by decide), gI_sj (by decide), gI_sj (by decide), gI_ss]; rfl
      · show gI _ 135 2 = _
        rw [gI_sj (by decide), gI_sj (by decide), gI_sj (by decide), gI_ss, ← hmen]; rfl)
    have f3 : frT M M2 := ((((((f1.st).st).st).st).st).st).p f2
    refine ⟨M2, ?_, f3⟩
    rw [h2, b2_s]
    by_cases h : nI 0 < evL (aC A 0) (stayV A (rB M b))
    · rw [if_pos h, if_pos (decide_eq_true h)]
    · rw [if_neg h, if_neg (fun q => h (of_decide_eq_true q))]
theorem ends_ok {A : LA} {M : Mem} {b Y Z : Nat} {asks : Int32} (hL : LandM A M) (hA : okA A) (hb : b + 31 ≤ 186) (hR : okR A Y Z (rB M b)) :
    ∃ M', fX13_ends M (nI b) asks = some M' ∧ rB M' b = (if asks = 0 then ageR (rB M b) else turnR A (ageR (rB M b))) ∧ frM b M M' := by
  have gB : ∀ i, i < 31 → gI M 133 (b + i) = rB M b i := fun i h => rB_g h
  obtain ⟨hr1, hr2⟩ := ruler_lt hR
  let M3 := sI (sI (sI M 133 (b + 3) (rB M b 3 + 1)) 133 (b + (10 + ruler (rB M b))) (rB M b (10 + ruler (rB M b)) + 1)) 133 (b + 5) (rB M b 5 + 1)
  have hB3 : rB M3 b = ageR (rB M b) := by
    show rB (sI _ _ _ _) b = _
    rw [rB_s (by decide), rB_s (by omega), rB_s (by decide)]
    rfl
  have hf3 : frM b M M3 := ((frM.rf.st (by omega) (by omega)).st (by omega) (by omega)).st (by omega) (by omega)
  have gB3 : ∀ i, i < 31 → gI M3 133 (b + i) = rB M3 b i := fun i h => rB_g h
  have hL3 := hL.fr hf3
  have hR3 : okR A (Y + 1) Z (rB M3 b) := by rw [hB3]; exact okR_age hR
  have e1 : fX13_ends M (nI b) asks = (if asks = 0 then some M3 else ldI M3 133 186 (nI b + 5) fun vq11 => ldI M3 133 186 (nI b + 12) fun vq12 => if vq11 < vq12 then some M3 else b2 (fX13_isStaying M3 (nI b)) fun vq13 Mq14 => if vq13 = 0 then ldI Mq14 133 186 (nI b + 4) fun vq15 => stI Mq14 133 186 (nI b + 4) (1 - vq15) fun Mq16 => stI Mq16 133 186 (nI b + 5) 0 fun Mq17 => some Mq17 else pu (nI b + 9) fun vq18 => ldI Mq14 133 186 vq18 fun vq19 => stI Mq14 133 186 vq18 (vq19 + 1) fun Mq20 => some Mq20) := by
    unfold fX13_ends
    rw [show (3 : Int32) = nI 3 from rfl, nI_add, pu_s, ldI_nI (by omega) (by decide), stI_nI (by omega) (by decide), show (4 : Int32) = nI 4 from rfl, nI_add, ldI_nI (by omega) (by decide), gI_sj (by omega), gB 4 (by decide), hr2, show (10 : Int32) = nI 10 from rfl, nI_add, nI_add, pu_s, show b + 10 + ruler (rB M b) = b + (10 + ruler (rB M b)) by omega, ldI_nI (by omega) (by decide), gI_sj (by omega), gB (10 + ruler (rB M b)) (by omega), stI_nI (by omega) (by decide), show (5 : Int32) = nI 5 from rfl, nI_add, pu_s, ldI_nI (by omega) (by decide), gI_sj (by omega), gI_sj (by omega), gB 5 (by decide), gB 3 (by decide), stI_nI (by omega) (by decide)]
  rw [e1]
  by_cases ha : asks = 0
  · rw [if_pos ha, if_pos ha]
    exact ⟨M3, rfl, hB3, hf3⟩
  · rw [if_neg ha, if_neg ha, ← hB3, show (5 : Int32) = nI 5 from rfl, show (12 : Int32) = nI 12 from rfl, nI_add, nI_add, ldI_nI (by omega) (by decide), ldI_nI (by omega) (by decide), gB3 5 (by decide), gB3 12 (by decide)]
    unfold turnR
    by_cases h5 : rB M3 b 5 < rB M3 b 12
    · rw [if_pos h5, if_pos h5]
      exact ⟨M3, rfl, rfl, hf3⟩
    · rw [if_neg h5, if_neg h5]
      obtain ⟨M4, h4, f4⟩ := stay_ok hL3 hA hb hR3
      rw [h4, b2_s]
      have hB4 := rB_t (b := b) f4
      have gB4 : ∀ i, i < 31 → gI M4 133 (b + i) = rB M3 b i := fun i h => by rw [← hB4]; exact rB_g h
      by_cases hs : stayR A (rB M3 b) = true
      · rw [if_pos hs, if_pos hs, if_neg (by decide), show (9 : Int32) = nI 9 from rfl, nI_add, pu_s, ldI_nI (by omega) (by decide), stI_nI (by omega) (by decide), gB4 9 (by decide)]
        exact ⟨_, rfl, by rw [rB_s (by decide), hB4], (hf3.tr (f4.frM b)).st (by omega) (by omega)⟩
      · rw [if_neg hs, if_neg hs, if_pos rfl, show (4 : Int32) = nI 4 from rfl, nI_add, ldI_nI (by omega) (by decide), stI_nI (by omega) (by decide), stI_nI (by omega) (by decide), gB4 4 (by decide)]
        exact ⟨_, rfl, by rw [rB_s (by decide), rB_s (by decide), hB4]; rfl, ((hf3.tr (f4.frM b)).st (by omega) (by omega)).st (by omega) (by omega)⟩
theorem doX_ok {A : LA} {M : Mem} {b Y Z : Nat} {d : Int32} (hL : LandM A M) (hA : okA A) (hb : b + 31 ≤ 186) (hd : dOk A d) (hR : okR A Y Z (rB M b)) :
    ∃ M', fX13_does M (nI b) d = some (if (doX A (rB M b) d).1 = true then 1 else 0, M') ∧ rB M' b = (doX A (rB M b) d).2 ∧ frM b M M' := by
  have h7 := hA.1
  rcases hd with e | ⟨n, hn, e⟩ <;> subst e
  · refine ⟨M, ?_, by rw [doX_m1], frM.rf⟩
    rw [doX_m1]
    rfl
  · obtain ⟨hr1, hr2⟩ := ruler_lt hR
    rw [doX_n (by omega)]
    exact does_ok hL hA hb hn hr2 hr1
/-- a year of the reference with its harvest, and a deed told or of the way -/
theorem goesBy_ok {A : LA} {M : Mem} {b Y Z : Nat} {d : Int32} (hL : LandM A M) (hA : okA A) (hb : b + 31 ≤ 186) (hd : d = -2 ∨ dOk A d) (hR : okR A Y Z (rB M b)) (hY : Y < 10 ^ 8) (hZ : Z < 10 ^ 8) :
    ∃ M', fX13_goesBy M (nI b) d = some M' ∧ rB M' b = liveR A (rB M b) (harvR A (rB M b)) (if d = -2 then wayR A (rB M b) (ruler (rB M b)) else d) ∧ frM b M M' := by
  have gB : ∀ i, i < 31 → gI M 133 (b + i) = rB M b i := fun i h => rB_g h
  obtain ⟨y, hy, ey⟩ := hR.2.2.2.1
  have hh : harvR A (rB M b) = if aN A 1 = 0 then 20 else aF A 4 (y % aN A 1) := by
    unfold harvR
    rw [ey, nI_clamp (by omega)]
  obtain ⟨hr1, hr2⟩ := ruler_lt hR
  obtain ⟨M1, h1, hB1, f1⟩ := gathers_ok (M := M) (b := b) (h := harvR A (rB M b)) hb
  have hL1 := hL.fr f1
  have hR1 : okR A Y Z (rB M1 b) := by rw [hB1]; exact okR_gath hR _
  obtain ⟨hs1, hs2⟩ := ruler_lt hR1
  have fin : ∀ d9 : Int32, dOk A d9 → ∃ M', fX13_goesBy_b42 M1 (nI b) d9 (nI b) = some M' ∧ rB M' b = liveR A (rB M b) (harvR A (rB M b)) d9 ∧ frM b M M' := by
    intro d9 hd9
    obtain ⟨M2, h2, hB2, f2⟩ := doX_ok hL1 hA hb hd9 hR1
    have hR2 : okR A Y (Z + 20) (rB M2 b) := by rw [hB2]; exact okR_doX hR1 hA hd9 (by omega)
    obtain ⟨M3, h3, hB3, f3⟩ := ends_ok (asks := 1) (hL1.fr f2) hA hb hR2
    refine ⟨M3, ?_, ?_, (f1.tr f2).tr f3⟩
    · unfold fX13_goesBy_b42
      rw [h2, b2_s, h3, b1_s]
    · rw [hB3, if_neg (by decide), hB2, hB1]; rfl
  unfold fX13_goesBy
  rw [show (3 : Int32) = nI 3 from rfl, nI_add, ldI_nI (by omega) (by decide), gB 3 (by decide), ey, harv_ok hL hA (by omega), b1_s, ← hh, h1, b1_s]
  by_cases hd2 : d = -2
  · rw [if_pos hd2, if_pos hd2, show (4 : Int32) = nI 4 from rfl, nI_add, ldI_nI (by omega) (by decide), rB_g (by decide), hs2]
    have hm : ∃ m : Nat, m < 2 ^ 31 ∧ rB M1 b (10 + ruler (rB M1 b)) = nI m := by
      have hu : ruler (rB M1 b) = 0 ∨ ruler (rB M1 b) = 1 := by omega
      rcases hu with e | e <;> rw [e]
      · obtain ⟨m, q1, q2⟩ := hR1.2.2.2.2.2.2.2.2.1
        exact ⟨m, by omega, q2⟩
      · obtain ⟨m, q1, q2⟩ := hR1.2.2.2.2.2.2.2.2.2.1
        exact ⟨m, by omega, q2⟩
    obtain ⟨m, hm1, hm2⟩ := hm
    rw [way_ok hL1 hA hb hs1 hm2 hm1, b1_s, hB1, wayR_gath, ruler_gath]
    exact fin _ (way_dOk hR hr1)
  · rw [if_neg hd2, if_neg hd2]
    exact fin _ (hd.resolve_left hd2)
theorem goesW_ok {A : LA} {M : Mem} {b Y Z : Nat} (hL : LandM A M) (hA : okA A) (hb : b + 31 ≤ 186) (hR : okR A Y Z (rB M b)) (hY : Y < 10 ^ 8) (hZ : Z < 10 ^ 8) :
    ∃ M', fX13_goesBy M (nI b) (-2) = some M' ∧ rB M' b = goesR A (rB M b) ∧ frM b M M' := by
  obtain ⟨M', h1, h2, h3⟩ := goesBy_ok (d := -2) hL hA hb (Or.inl rfl) hR hY hZ
  rw [if_pos rfl] at h2
  exact ⟨M', h1, h2, h3⟩
theorem yearsR_s {A : LA} {r : Nat → Int32} (n : Nat) : yearsR A r (n + 1) = goesR A (yearsR A r n) := rfl
theorem goesYears_l {A : LA} {b Y Z N : Nat} {r : Nat → Int32} (hA : okA A) (hb : b + 31 ≤ 186) (hN : N < 10 ^ 5) (hR : okR A Y Z r) (hY : Y < 10 ^ 6) (hZ : Z < 10 ^ 6) : ∀ (d i fuel : Nat) (M : Mem), LandM A M → rB M b = yearsR A r i → i + d = N → d < fuel →
    ∃ M', fX13_goesYears_l2 fuel M (nI b) (nI N) (nI i) = some M' ∧ rB M' b = yearsR A r N ∧ frM b M M' := by
  intro d
  induction d with
  | zero =>
    intro i fuel M hL hr hi hf
    obtain ⟨m, rfl⟩ : ∃ m, fuel = m + 1 := ⟨fuel - 1, by omega⟩
    rw [fX13_goesYears_l2, if_neg (by rw [lt_nI (by omega) (by omega)]; omega)]
    exact ⟨M, rfl, by rw [hr, show i = N by omega], frM.rf⟩
  | succ d ih =>
    intro i fuel M hL hr hi hf
    obtain ⟨m, rfl⟩ : ∃ m, fuel = m + 1 := ⟨fuel - 1, by omega⟩
    rw [fX13_goesYears_l2, if_pos (by rw [lt_nI (by omega) (by omega)]; omega)]
    have hRi := okR_years hR hA (by omega) i (by omega)
    rw [← hr] at hRi
    obtain ⟨M1, h1, hB1, f1⟩ := goesW_ok hL hA hb hRi (by omega) (by omega)
    rw [h1, b1_s, pu_s, nI_1]
    obtain ⟨M2, h2, hB2, f2⟩ := ih (i + 1) m M1 (hL.fr f1) (by rw [hB1, hr, yearsR_s]) (by omega) (by omega)
    exact ⟨M2, h2, hB2, f1.tr f2⟩
theorem goesYears_ok {A : LA} {b Y Z N : Nat} {M : Mem} (hL : LandM A M) (hA : okA A) (hb : b + 31 ≤ 186) (hN : N < 10 ^ 4) (hR : okR A Y Z (rB M b)) (hY : Y < 10 ^ 6) (hZ : Z < 10 ^ 6) :
    ∃ M', fX13_goesYears M (nI b) (nI N) = some M' ∧ rB M' b = yearsR A (rB M b) N ∧ frM b M M' := goesYears_l hA hb (by omega) hR hY hZ N 0 FU M hL rfl (by omega) (by show N < 100000; omega)
/-- a row laid over another -/
theorem lays0_l {b c : Nat} {r r0 : Nat → Int32} (hb : b + 31 ≤ 186) (hc : c + 31 ≤ 186) (hbc : b + 31 ≤ c ∨ c + 31 ≤ b) : ∀ (d i fuel : Nat) (M : Mem), rB M b = r → rB M c = (fun j => if j < i then r j else r0 j) → i + d = 31 → d < fuel →
    ∃ M', fX13_lays0_l2 fuel M (nI b) (nI c) (nI i) = some M' ∧ rB M' c = (fun j => if j < 31 then r j else r0 j) ∧ frM c M M' := by
  intro d
  induction d with
  | zero =>
    intro i fuel M hr hq hi hf
    obtain ⟨m, rfl⟩ : ∃ m, fuel = m + 1 := ⟨fuel - 1, by omega⟩
    rw [fX13_lays0_l2, if_neg (by rw [show (31 : Int32) = nI 31 from rfl, lt_nI (by omega) (by decide)]; omega)]
    exact ⟨M, rfl, by rw [hq, show i = 31 by omega], frM.rf⟩
  | succ d ih =>
    intro i fuel M hr hq hi hf
    obtain ⟨m, rfl⟩ : ∃ m, fuel = m + 1 := ⟨fuel - 1, by omega⟩
    rw [fX13_lays0_l2, if_pos (by rw [show (31 : Int32) = nI 31 from rfl, lt_nI (by omega) (by decide)]; omega), nI_add, nI_add, ldI_nI (by omega) (by decide), stI_nI (by omega) (by decide), pu_s, nI_1, rB_g (by omega), hr]
    have hf1 : frM c M (sI M 133 (c + i) (r i)) := frM.rf.st (by omega) (by omega)
    obtain ⟨M2, h2, hB2, f2⟩ := ih (i + 1) m (sI M 133 (c + i) (r i)) (by rw [rB_o (by omega), hr]) (by
      rw [rB_s (by omega), hq]
      funext j
      rw [upd_a]
      by_cases h1 : j = i
      · subst h1
        rw [if_pos rfl, if_pos (by omega)]
      · rw [if_neg h1]
        by_cases h2 : j < i
        · rw [if_pos h2, if_pos (by omega)]
        · rw [if_neg h2, if_neg (by omega)]) (by omega) (by omega)
    exact ⟨M2, h2, hB2, hf1.tr f2⟩
theorem lays0_ok {b c : Nat} {M : Mem} (hb : b + 31 ≤ 186) (hc : c + 31 ≤ 186) (hbc : b + 31 ≤ c ∨ c + 31 ≤ b) : ∃ M', fX13_lays0 M (nI b) (nI c) = some M' ∧ rB M' c = rB M b ∧ frM c M M' := by
  obtain ⟨M', h1, h2, h3⟩ := lays0_l (r := rB M b) (r0 := rB M c) hb hc hbc 31 0 FU M rfl (by funext j; rw [if_neg (by omega)]) (by omega) (by decide)
  refine ⟨M', h1, ?_, h3⟩
  rw [h2]
  funext j
  by_cases hj : j < 31
  · rw [if_pos hj]
  · rw [if_neg hj]
    unfold rB
    rw [if_neg hj, if_neg hj]
