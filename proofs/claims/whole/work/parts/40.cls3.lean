/-! THE CLASS: turns, years, copies -/
theorem evF_v {v v' : Nat → Int32} : ∀ (l : List Int32) (st : Nat → Int32) (n : Nat), (∀ x ∈ l, ¬ x < -6 → x < 0 → v ((-1) - x).toNatClampNeg = v' ((-1) - x).toNatClampNeg) → evF v l st n = evF v' l st n := by
  intro l
  induction l with
  | nil => intro st n h; rfl
  | cons x l ih =>
    intro st n h
    have h2 := fun y hy => h y (List.mem_cons_of_mem _ hy)
    unfold evF
    by_cases hx : x < -6
    · rw [if_pos hx, if_pos hx]
      split
      · exact ih _ _ h2
      · exact ih _ _ h2
    · rw [if_neg hx, if_neg hx]
      have : itV v x = itV v' x := by
        unfold itV
        by_cases h0 : x < 0
        · rw [if_pos h0, if_pos h0, h x List.mem_cons_self hx h0]
        · rw [if_neg h0, if_neg h0]
      rw [this]
      exact ih _ _ h2
theorem m6_of {x : Int32} (h7 : -7 < x) (h0 : x < 0) (h : ((-1) - x).toNatClampNeg = 5) : x = -6 := by
  rw [Int32.lt_iff_toInt_lt] at h7 h0
  rw [show ((-7 : Int32)).toInt = -7 from by decide] at h7
  rw [show ((0 : Int32)).toInt = 0 from by decide] at h0
  have e : ((-1) - x).toInt = -1 - x.toInt := by
    rw [Int32.toInt_sub, show ((-1 : Int32)).toInt = -1 from by decide, Int.bmod_eq_of_le (by omega) (by omega)]
  have h2 : ((-1) - x).toInt.toNat = 5 := h
  rw [← Int32.toInt_inj, show ((-6 : Int32)).toInt = -6 from by decide]
  omega
theorem over_ok {M : Mem} {k : Nat} (hk : kd k = 2) : ∃ M', fX3_handOver M k = some M' ∧ rC M' k = overR (rC M k) ∧ frC k M M' := by
  refine ⟨sI (sI M k 4 (1 - rC M k 4)) k 5 0, ?_, ?_, (frC.rf.st (by omega)).st (by omega)⟩
  · unfold fX3_handOver
    rw [ck_t hk]
    simp only [pu_s]
    rw [gC_f (by decide)]
  · rw [rC_f (by decide), rC_f (by decide)]; rfl
theorem turn_ok {A : LA} {M : Mem} {k Y Z : Nat} (hL : LandC A M) (hA : okA A) (hk : kd k = 2) (hR : okR A Y Z (rC M k)) : ∃ M', fX7_turn M k = some M' ∧ rC M' k = turnR A (rC M k) ∧ frC k M M' := by
  have gC : ∀ i, i < 6 → gI M k i = rC M k i := fun i q => gC_f q
  have hkk := city_cases hk
  obtain ⟨hr1, hr2⟩ := ruler_lt hR
  have hL0 := hL
  obtain ⟨hL4, hl⟩ := hL
  have hLc := land_cases hL4
  generalize hLL : gR M 28 0 = L at hL4 hl hLc
  have g28 : ∀ {M1 : Mem} {a j : Nat} {v : Int32}, gR (sI M1 a j v) 28 0 = gR M1 28 0 := gR_sI
  have gA : gI M (k + 2) (ruler (rC M k)) = rC M k (6 + ruler (rC M k)) := gC_a2 hr1
  unfold fX7_turn turnR
  rw [ck_t hk]
  simp only [pu_s, hLL, ck_t hL4]
  rw [gC 5 (by decide), gC_f8]
  by_cases h5 : rC M k 5 < rC M k 12
  · rw [if_pos h5, if_pos h5]
    exact ⟨M, rfl, rfl, frC.rf⟩
  · rw [if_neg h5, if_neg h5, told_iff (rcT_land hL4).2.2.1 hl.2.2.2.2.2.2.2.2.2.2.2.2.1, b1_s]
    have hov : ∀ M1 : Mem, rC M1 k = rC M k → frC k M M1 → ∃ M', fX7_turn_b148 M1 k = some M' ∧ rC M' k = overR (rC M k) ∧ frC k M M' := by
      intro M1 e1 f1
      obtain ⟨M2, h2, hB, f2⟩ := over_ok (M := M1) hk
      unfold fX7_turn_b148
      rw [ck_t hk, h2, b1_s]
      exact ⟨M2, rfl, by rw [hB, e1], f1.tr f2⟩
    by_cases hc : aC A 0 = []
    · rw [if_pos hc, if_pos rfl]
      have : stayR A (rC M k) = false := by unfold stayR; rw [if_pos hc]
      rw [this, if_neg (by decide)]
      exact hov M rfl frC.rf
    · rcases hA.2.2.2.2.2.2.2.2.2.2.2.2 0 (by decide) with hok | ⟨hwf, hix⟩
      · exact absurd hok hc
      obtain ⟨s, q1, q2, q3, q4⟩ := hl.2.2.2.2.2.2.2.2.2.2.2.2.1
      have hask := hl.2.2.2.2.2.2.2.2.2.2.2.2.2.2
      rw [if_neg hc, if_neg (by decide)]
      -- the values told but the men
      let M5 := sI (sI (sI (sI (sI M 46 0 (rC M k 0)) 46 1 (rC M k 1)) 46 2 (rC M k 2)) 46 3 (rC M k (6 + ruler (rC M k)))) 46 4 (rC M k 3)
      have f5 : frK M M5 := ((((frK.rf.st (by omega)).st (by omega)).st (by omega)).st (by omega)).st (by omega)
      have hst : stayR A (rC M k) = decide (0 < evL (aC A 0) (stayV A (rC M k))) := by unfold stayR; rw [if_neg hc]
      have fin : ∀ (M6 : Mem) (u : Int32), frK M M6 → (∀ j, j < 5 → gI M6 46 j = gI M5 46 j) → ((∃ x ∈ aC A 0, x = -6) → u = stayV A (rC M k) 5) → ∃ M', fX7_turn_b115 M6 k u 5 = some M' ∧ rC M' k = (if stayR A (rC M k) = true then upd (rC M k) 9 (rC M k 9 + 1) else overR (rC M k)) ∧ frC k M M' := by
        intro M6 u f6 h6 hu
        have f7 : frK M (sI M6 46 5 u) := f6.st (by omega)
        obtain ⟨M8, h8, f8⟩ := eval_ok (v := stayV A (rC M k)) (x0 := L + 15) (x1 := 46) (rcT_land hL4).2.2.1 (Or.inl rfl) (l := aC A 0) (s := s) (M := sI M6 46 5 u) hwf q3 (by rw [f7.1 _ _ (by omega) (by omega) (by omega)]; exact q1) (by rw [f7.1 _ _ (by omega) (by omega) (by omega)]; exact q2) (fun i hi => by rw [(rcT_land hL4).1, f7.1 _ _ (by omega) (by omega) (by omega), ← (rcT_land hL4).1]; exact q4 i hi) (fun x hx y1 y2 => by
          have hi := hix x hx y1 y2
          refine ⟨by omega, ?_⟩
          by_cases h5 : ((-1) - x).toNatClampNeg = 5
          · rw [h5, gI_ss]
            exact hu ⟨x, hx, m6_of y1 y2 h5⟩
          · generalize ((-1) - x).toNatClampNeg = i at hi h5 ⊢
            rw [gI_sj h5, h6 i (by omega)]
            rcases (show i = 0 ∨ i = 1 ∨ i = 2 ∨ i = 3 ∨ i = 4 by omega) with h | h | h | h | h <;> subst h
            · show gI (sI (sI (sI (sI (sI _ _ _ _) _ _ _) _ _ _) _ _ _) _ _ _) 46 0 = _
              rw [gI_sj (by decide), gI_sj (by decide), gI_sj (by decide), gI_sj (by decide), gI_ss]; rfl
            · show gI (sI (sI (sI (sI (sI _ _ _ _) _ _ _) _ _ _) _ _ _) _ _ _) 46 1 = _
              rw [gI_sj (by decide), gI_sj (by decide), gI_sj (by decide), gI_ss]; rfl
            · show gI (sI (sI (sI (sI (sI _ _ _ _) _ _ _) _ _ _) _ _ _) _ _ _) 46 2 = _
              rw [gI_sj (by decide), gI_sj (by decide), gI_ss]; rfl
            · show gI (sI (sI (sI (sI (sI _ _ _ _) _ _ _) _ _ _) _ _ _) _ _ _) 46 3 = _
              rw [gI_sj (by decide), gI_ss]; rfl
            · show gI (sI (sI (sI (sI (sI _ _ _ _) _ _ _) _ _ _) _ _ _) _ _ _) 46 4 = _
              rw [gI_ss]; rfl)
        have f9 := f7.s f8
        unfold fX7_turn_b115
        rw [ck_t hk, show (5 : Int32) = nI 5 from rfl, stI_nI (by decide) (by decide)]
        simp only [pu_s]
        rw [gR_2 f7.2, hLL, ck_t hL4, h8, b2_s]
        by_cases hs : 0 < evL (aC A 0) (stayV A (rC M k))
        · rw [if_pos hs, hst, if_pos (decide_eq_true hs)]
          exact ⟨_, rfl, by rw [rC_f7, rC_k f9 hk, gC_f7, rC_k f9 hk], (f9.C k).st (by omega)⟩
        · rw [if_neg hs, hst, if_neg (fun q => hs (of_decide_eq_true q))]
          exact hov M8 (rC_k f9 hk) (f9.C k)
      rw [show (0 : Int32) = nI 0 from rfl, show (1 : Int32) = nI 1 from rfl, show (2 : Int32) = nI 2 from rfl, show (3 : Int32) = nI 3 from rfl, show (4 : Int32) = nI 4 from rfl]
      simp (disch := omega) only [stI_nI, ldI_nI, gI_sa, gC, g28, hLL, ck_t hL4, hr2, gA]
      by_cases ha : gI M (L + 15) 3 = nI 0
      · rw [if_pos ha]
        exact fin M5 0 f5 (fun j _ => rfl) (fun ⟨x, hx, e⟩ => absurd e (hask ha x hx))
      · rw [if_neg ha]
        have hR5 : okR A Y Z (rC M5 k) := by rw [rC_k f5 hk]; exact hR
        obtain ⟨M6, h6, f6⟩ := fol_ok (hL0.k f5) hA hk hR5 hr1
        rw [show fX7_followers M5 k (nI (ruler (rC M k))) = _ from h6, b2_s, menC_ok hA ((hL0.k f5).k f6.K), b1_s, rC_k f5 hk]
        have f6a : ∀ j, gI M6 46 j = gI M5 46 j := fun j => f6.1 46 j (by decide) (by decide)
        exact fin M6 _ (f5.tr f6.K) (fun j _ => f6a j) (fun _ => rfl)
