/-! THE CLASS: who follows, who stays, years -/
def frL (M M' : Mem) : Prop := (∀ a j, a ≠ 47 → a ≠ 48 → gI M' a j = gI M a j) ∧ M'.2 = M.2
theorem frL.rf {M : Mem} : frL M M := ⟨fun _ _ _ _ => rfl, rfl⟩
theorem frL.tr {M M1 M2 : Mem} (h : frL M M1) (h2 : frL M1 M2) : frL M M2 := ⟨fun a j y z => (h2.1 a j y z).trans (h.1 a j y z), h2.2.trans h.2⟩
theorem frL.st {M M1 : Mem} {a i : Nat} {v : Int32} (h : frL M M1) (ha : a = 47 ∨ a = 48) : frL M (sI M1 a i v) := ⟨fun c j y z => by rw [gI_sa (by omega)]; exact h.1 c j y z, h.2⟩
theorem frL.s {M M1 M2 : Mem} (h : frL M M1) (h2 : frS M1 M2) : frL M M2 := ⟨fun a j y z => (h2.1 a j z).trans (h.1 a j y z), h2.2.trans h.2⟩
theorem frL.K {M M' : Mem} (h : frL M M') : frK M M' := ⟨fun a j _ y z => h.1 a j y z, h.2⟩
theorem told_iff {M : Mem} {o : Nat} {l : List Int32} (hk : kd o = 7) (h : ruleC M o l) : fX8_isTold M o = some (if l = [] then 0 else 1) := by
  obtain ⟨s, q1, q2, q3, -⟩ := h
  unfold fX8_isTold
  rw [ck_t hk, pu_s, pu_s, q1, q2]
  by_cases hl : l = []
  · rw [if_pos hl, if_neg (by rw [lt_nI (by omega) (by omega), hl]; simp)]
  · have : l.length ≠ 0 := fun q => hl (List.eq_nil_of_length_eq_zero q)
    rw [if_neg hl, if_pos (by rw [lt_nI (by omega) (by omega)]; omega)]
theorem liking_ok {A : LA} {M : Mem} {k f who Y Z : Nat} (hL : LandC A M) (hA : okA A) (hc : aC A 1 ≠ []) (hk : kd k = 2) (hR : okR A Y Z (rC M k)) (hf : f < 6) (hw : who < 2) :
    ∃ M', fX7_liking M k (nI f) (nI who) = some (likR A (rC M k) f who 0, M') ∧ frL M M' := by
  have gC : ∀ i, i < 6 → gI M k i = rC M k i := fun i q => gC_f q
  have hkk := city_cases hk
  rcases hA.2.2.2.2.2.2.2.2.2.2.2.2 1 (by decide) with hok | ⟨hwf, hix⟩
  · exact absurd hok hc
  obtain ⟨hL4, hl⟩ := hL
  have hLc := land_cases hL4
  generalize hLL : gR M 28 0 = L at hL4 hl hLc
  obtain ⟨s, q1, q2, q3, q4⟩ := hl.2.2.2.2.2.2.2.2.2.2.2.2.2.1
  obtain ⟨hr1, hr2⟩ := ruler_lt hR
  have g28 : ∀ {M1 : Mem} {a j : Nat} {v : Int32}, gR (sI M1 a j v) 28 0 = gR M1 28 0 := gR_sI
  have gA : gI M (k + 2) who = rC M k (6 + who) := gC_a2 hw
  have gF : gI M (k + 4) f = rC M k (25 + f) := gC_a4 hf
  -- the last three told, then the value
  have fin : ∀ u w9 : Int32, u = (if rC M k 4 = nI who then 1 else 0) → w9 = (if who = 0 then -(rC M k (25 + f)) else rC M k (25 + f)) → ∃ M', fX7_liking_b56 (sI (sI M 47 0 (rC M k (6 + who))) 47 1 u) k w9 2 = some (likR A (rC M k) f who 0, M') ∧ frL M M' := by
    intro u w9 hu hw9
    have hfr : frL M (sI (sI (sI (sI (sI M 47 0 (rC M k (6 + who))) 47 1 u) 47 2 w9) 47 3 (rC M k 0)) 47 4 (rC M k 2)) := ((((frL.rf.st (by omega)).st (by omega)).st (by omega)).st (by omega)).st (by omega)
    obtain ⟨M', h1, h2⟩ := eval_ok (v := likV (rC M k) f who 0) (x0 := L + 16) (x1 := 47) (rcT_land hL4).2.2.2 (Or.inr rfl) (l := aC A 1) (s := s) (M := sI (sI (sI (sI (sI M 47 0 (rC M k (6 + who))) 47 1 u) 47 2 w9) 47 3 (rC M k 0)) 47 4 (rC M k 2)) hwf q3 (by rw [hfr.1 _ _ (by omega) (by omega)]; exact q1) (by rw [hfr.1 _ _ (by omega) (by omega)]; exact q2) (fun i hi => by rw [(rcT_land hL4).2.1, hfr.1 _ _ (by omega) (by omega), ← (rcT_land hL4).2.1]; exact q4 i hi) (fun x hx y1 y2 => by
      have hi := hix x hx y1 y2
      generalize ((-1) - x).toNatClampNeg = i at hi ⊢
      refine ⟨by omega, ?_⟩
      rcases (show i = 0 ∨ i = 1 ∨ i = 2 ∨ i = 3 ∨ i = 4 by omega) with h | h | h | h | h <;> subst h
      · rw [gI_sj (by decide), gI_sj (by decide), gI_sj (by decide), gI_sj (by decide), gI_ss]
        exact (Int32.add_zero _).symm
      · rw [gI_sj (by decide), gI_sj (by decide), gI_sj (by decide), gI_ss, hu]; rfl
      · rw [gI_sj (by decide), gI_sj (by decide), gI_ss, hw9]; rfl
      · rw [gI_sj (by decide), gI_ss]; rfl
      · rw [gI_ss]; rfl)
    refine ⟨M', ?_, hfr.s h2⟩
    unfold fX7_liking_b56
    rw [ck_t hk, show (2 : Int32) = nI 2 from rfl, show (3 : Int32) = nI 3 from rfl, show (4 : Int32) = nI 4 from rfl]
    simp (disch := omega) only [stI_nI, pu_s, gI_sa, gC, g28, hLL, ck_t hL4]
    rw [h1, b2_s]
    rfl
  have mid : ∀ u : Int32, u = (if rC M k 4 = nI who then 1 else 0) → ∃ M', fX7_liking_b30 (sI M 47 0 (rC M k (6 + who))) k (nI f) (nI who) u 1 = some (likR A (rC M k) f who 0, M') ∧ frL M M' := by
    intro u hu
    unfold fX7_liking_b30
    rw [ck_t hk, show (1 : Int32) = nI 1 from rfl, stI_nI (by decide) (by decide), ldI_nI (by omega) (by decide), ldI_nI (by omega) (by decide), gI_sa (by omega), gI_sa (by omega), gF]
    by_cases h0 : who = 0
    · rw [if_pos (by rw [h0]; exact nI_0)]
      exact fin u _ hu (by rw [if_pos h0])
    · rw [if_neg (nI_ne0 (by omega) (by omega))]
      exact fin u _ hu (by rw [if_neg h0])
  unfold fX7_liking
  rw [ck_t hk, ldI_nI hw (by decide), gA, show (0 : Int32) = nI 0 from rfl, stI_nI (by decide) (by decide), pu_s, gI_sa (by omega), gC 4 (by decide)]
  by_cases h4 : rC M k 4 = nI who
  · rw [if_pos h4]; exact mid 1 (by rw [if_pos h4])
  · rw [if_neg h4]; exact mid 0 (by rw [if_neg h4])
theorem fol_l {A : LA} {k who Y Z : Nat} (hA : okA A) (hk : kd k = 2) (hw : who < 2) {r : Nat → Int32} (hR : okR A Y Z r) : ∀ (d i fuel : Nat) (M : Mem), LandC A M → rC M k = r → i + d = aN A 2 → d < fuel →
    ∃ M', fX7_followers_l5 fuel M k (nI who) (folN A r who i) (nI i) = some (folN A r who (aN A 2), M') ∧ frL M M' := by
  have h6 : aN A 2 ≤ 6 := hA.2.2.1
  intro d
  induction d with
  | zero =>
    intro i fuel M hL hr hi hf
    obtain ⟨m, rfl⟩ : ∃ m, fuel = m + 1 := ⟨fuel - 1, by omega⟩
    refine ⟨M, ?_, frL.rf⟩
    rw [fX7_followers_l5, ck_t hk]
    simp only [pu_s, ck_t hL.1]
    rw [hL.2.2.2.1, if_neg (by rw [lt_nI (by omega) (by omega)]; omega), show aN A 2 = i by omega]
  | succ d ih =>
    intro i fuel M hL hr hi hf
    obtain ⟨m, rfl⟩ : ∃ m, fuel = m + 1 := ⟨fuel - 1, by omega⟩
    have nx : ∀ (M1 : Mem) (y : Bool), frL M M1 → youR A r i 0 0 = y → ∃ M', fX7_followers_b72 (fX7_followers_l5 m) M1 k (nI who) (folN A r who i) (nI i) (if y = true then 1 else 0) = some (folN A r who (aN A 2), M') ∧ frL M M' := by
      intro M1 y f1 hy
      have go : ∀ w : Int32, w = folN A r who (i + 1) → ∃ M', fX7_followers_b96 (fX7_followers_l5 m) M1 k (nI who) w (nI i) = some (folN A r who (aN A 2), M') ∧ frL M M' := by
        intro w hw9
        obtain ⟨M', h2, f2⟩ := ih (i + 1) m M1 (hL.k f1.K) ((rC_k f1.K hk).trans hr) (by omega) (by omega)
        refine ⟨M', ?_, f1.tr f2⟩
        unfold fX7_followers_b96
        rw [ck_t hk, pu_s, hw9, nI_1, h2]
      have e : folN A r who (i + 1) = if y = (who == 1) then folN A r who i ||| shl1 i else folN A r who i := by rw [← hy]; rfl
      unfold fX7_followers_b72 fX7_followers_b86
      rw [ck_t hk]
      simp only [pu_s, ck_t hk]
      rcases (show who = 0 ∨ who = 1 by omega) with h | h <;> subst h
      · rw [if_neg (by decide)]
        cases y
        · rw [if_pos (by decide)]
          exact go _ (by rw [e]; rfl)
        · rw [if_neg (by decide)]
          exact go _ (by rw [e]; rfl)
      · rw [if_pos (show nI 1 = 1 from rfl)]
        cases y
        · rw [if_neg (by decide)]
          exact go _ (by rw [e]; rfl)
        · rw [if_pos (by decide)]
          exact go _ (by rw [e]; rfl)
    rw [fX7_followers_l5, ck_t hk]
    simp only [pu_s, ck_t hL.1]
    rw [hL.2.2.2.1, if_pos (by rw [lt_nI (by omega) (by omega)]; omega), told_iff (rcT_land hL.1).2.2.2 hL.2.2.2.2.2.2.2.2.2.2.2.2.2.2.1, b1_s]
    by_cases hc : aC A 1 = []
    · rw [if_pos hc, if_pos rfl, ldI_nI (by omega) (by decide), gC_a4 (by omega), hr]
      have hy : youR A r i 0 0 = decide (0 < r (25 + i)) := by unfold youR; rw [if_pos hc]
      by_cases h : 0 < r (25 + i)
      · rw [if_pos h]
        exact nx M true frL.rf (by rw [hy]; exact decide_eq_true h)
      · rw [if_neg h]
        exact nx M false frL.rf (by rw [hy]; exact decide_eq_false h)
    · rw [if_neg hc, if_neg (by decide)]
      have hRM : okR A Y Z (rC M k) := by rw [hr]; exact hR
      obtain ⟨M1, h1, f1⟩ := liking_ok hL hA hc hk hRM (f := i) (by omega) (who := 1) (by decide)
      have hr1 : rC M1 k = rC M k := rC_k f1.K hk
      obtain ⟨M2, h2, f2⟩ := liking_ok (hL.k f1.K) hA hc hk (by rw [hr1]; exact hRM) (f := i) (by omega) (who := 0) (by decide)
      rw [show fX7_liking M k (nI i) 1 = _ from h1, b2_s, show fX7_liking M1 k (nI i) 0 = _ from h2, b2_s, hr1, hr]
      have hy : youR A r i 0 0 = decide (likR A r i 0 0 < likR A r i 1 0) := by unfold youR; rw [if_neg hc]
      by_cases h : likR A r i 0 0 < likR A r i 1 0
      · rw [if_pos h]
        exact nx M2 true (f1.tr f2) (by rw [hy]; exact decide_eq_true h)
      · rw [if_neg h]
        exact nx M2 false (f1.tr f2) (by rw [hy]; exact decide_eq_false h)
theorem fol_ok {A : LA} {M : Mem} {k who Y Z : Nat} (hL : LandC A M) (hA : okA A) (hk : kd k = 2) (hR : okR A Y Z (rC M k)) (hw : who < 2) : ∃ M', fX7_followers M k (nI who) = some (folN A (rC M k) who (aN A 2), M') ∧ frL M M' := by
  have h6 : aN A 2 ≤ 6 := hA.2.2.1
  unfold fX7_followers
  rw [ck_t hk]
  exact fol_l hA hk hw hR (aN A 2) 0 FU M hL rfl (by omega) (by show _ < 100000; omega)
theorem menC_l {A : LA} {x : Int32} (hA : okA A) {M : Mem} (hL : LandC A M) : ∀ (d i fuel : Nat), i + d = aN A 2 → d < fuel → fX7_menOf_l4 fuel M x (menN A x i) (nI i) = some (menN A x (aN A 2)) := by
  have h6 : aN A 2 ≤ 6 := hA.2.2.1
  intro d
  induction d with
  | zero =>
    intro i fuel hi hf
    obtain ⟨m, rfl⟩ : ∃ m, fuel = m + 1 := ⟨fuel - 1, by omega⟩
    rw [fX7_menOf_l4]
    simp only [pu_s, ck_t hL.1]
    rw [hL.2.2.2.1, if_neg (by rw [lt_nI (by omega) (by omega)]; omega), show aN A 2 = i by omega]
  | succ d ih =>
    intro i fuel hi hf
    obtain ⟨m, rfl⟩ : ∃ m, fuel = m + 1 := ⟨fuel - 1, by omega⟩
    have nx : ∀ w : Int32, w = menN A x (i + 1) → fX7_menOf_b35 (fX7_menOf_l4 m) M x w (nI i) = some (menN A x (aN A 2)) := by
      intro w hw9
      unfold fX7_menOf_b35
      rw [pu_s, hw9, nI_1, ih (i + 1) m (by omega) (by omega)]
    rw [fX7_menOf_l4]
    simp only [pu_s, ck_t hL.1]
    rw [hL.2.2.2.1, if_pos (by rw [lt_nI (by omega) (by omega)]; omega)]
    by_cases hb : bitR x i = true
    · have hb2 := of_decide_eq_true hb
      rw [if_neg hb2, ldI_nI (by omega) (by decide), hL.2.2.2.2.2.2.2.2.2.2.1 i (by omega)]
      exact nx _ (by show _ = if _ then _ else _; rw [if_pos hb])
    · have hb2 : (x >>> (nI i &&& 31)) &&& 1 = 0 := by
        unfold bitR at hb
        simpa using hb
      rw [if_pos hb2]
      exact nx _ (by show _ = if _ then _ else _; rw [if_neg hb])
theorem menC_ok {A : LA} {x : Int32} (hA : okA A) {M : Mem} (hL : LandC A M) : fX7_menOf M x = some (menN A x (aN A 2)) := by
  have h6 : aN A 2 ≤ 6 := hA.2.2.1
  exact menC_l hA hL (aN A 2) 0 FU (by omega) (by show _ < 100000; omega)
