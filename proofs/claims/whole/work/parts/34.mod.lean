/-! THE REFERENCE: years -/
def kmS (i : Nat) : Nat := ([3, 0, 4, 5, 1, 2] : List Nat).getD i 0
def kmL (i : Nat) : Nat := ([5, 6, 7, 3, 4] : List Nat).getD i 0
theorem kmS_lt (i : Nat) : kmS i < 8 := by
  unfold kmS
  rcases Nat.lt_or_ge i 6 with h | h
  · exact (by decide : ∀ i, i < 6 → ([3, 0, 4, 5, 1, 2] : List Nat).getD i 0 < 8) i h
  · rw [List.getD_eq_getElem?_getD, List.getElem?_eq_none (by simpa using h)]; decide
theorem kmL_lt (i : Nat) : kmL i < 8 := by
  unfold kmL
  rcases Nat.lt_or_ge i 5 with h | h
  · exact (by decide : ∀ i, i < 5 → ([5, 6, 7, 3, 4] : List Nat).getD i 0 < 8) i h
  · rw [List.getD_eq_getElem?_getD, List.getElem?_eq_none (by simpa using h)]; decide
/-- a rule as the reference holds it: where it begins, -1 for none -/
def ruleM (M : Mem) (at_ : Int32) (km : Nat → Nat) (l : List Int32) : Prop := if l = [] then at_ = -1 else ∃ p : Nat, p < 1400 ∧ at_ = nI p ∧ encM (gI M 115) km l p
/-- the land that the reference holds -/
def LandM (A : LA) (M : Mem) : Prop := gI M 103 1 = nI (aN A 0) ∧ gI M 103 2 = nI (aN A 1) ∧ gI M 103 3 = nI (aN A 2) ∧ gI M 103 4 = nI (aN A 3) ∧ gI M 103 5 = nI (aN A 4) ∧ gI M 108 0 = nI (aN A 5) ∧ gI M 108 1 = nI (aN A 6) ∧
  (∀ d, d < aN A 0 → gI M 104 d = aF A 0 d ∧ gI M 105 d = aF A 1 d ∧ gI M 106 d = aF A 2 d ∧ gI M 107 d = aF A 3 d) ∧ (∀ i, i < aN A 1 → gI M 109 i = aF A 4 i) ∧ (∀ i, i < aN A 2 → gI M 110 i = aF A 5 i) ∧
  (∀ i, i < aN A 3 → gI M 111 i = aF A 6 i ∧ gI M 112 i = aF A 7 i) ∧ (∀ i, i < aN A 4 → gI M 113 i = aF A 8 i ∧ gI M 114 i = aF A 9 i) ∧ ruleM M (gI M 103 6) kmS (aC A 0) ∧ ruleM M (gI M 103 7) kmL (aC A 1) ∧ (∀ i, i < 2 → (aC A i).length ≤ 700)
theorem LandM.mv {A : LA} {M M' : Mem} (h : LandM A M) (f : ∀ a j, (a = 103 → 1 ≤ j ∧ j ≤ 7) → (103 ≤ a ∧ a ≤ 115) → gI M' a j = gI M a j) : LandM A M' := by
  obtain ⟨h1, h2, h3, h4, h5, h6, h7, h8, h9, h10, h11, h12, h13, h14, h15⟩ := h
  have g : ∀ a j, 104 ≤ a → a ≤ 115 → gI M' a j = gI M a j := fun a j x y => f a j (by omega) (by omega)
  have g3 : ∀ j, 1 ≤ j → j ≤ 7 → gI M' 103 j = gI M 103 j := fun j x y => f 103 j (fun _ => ⟨x, y⟩) (by decide)
  have gr : ∀ {at_ : Int32} {km : Nat → Nat} {l : List Int32}, ruleM M at_ km l → ruleM M' at_ km l := by
    intro at_ km l hr
    unfold ruleM at hr ⊢
    split at hr
    · next hl => rw [if_pos hl]; exact hr
    · next hl =>
      rw [if_neg hl]
      obtain ⟨p, hp, q1, q2⟩ := hr
      exact ⟨p, hp, q1, encM_congr _ _ q2 (fun i => (g 115 i (by decide) (by decide)).symm)⟩
  refine ⟨by rw [g3 1 (by decide) (by decide)]; exact h1, by rw [g3 2 (by decide) (by decide)]; exact h2, by rw [g3 3 (by decide) (by decide)]; exact h3, by rw [g3 4 (by decide) (by decide)]; exact h4, by rw [g3 5 (by decide) (by decide)]; exact h5, by rw [g 108 0 (by decide) (by decide)]; exact h6, by rw [g 108 1 (by decide) (by decide)]; exact h7, fun d hd => ?_, fun i hi => ?_, fun i hi => ?_, fun i hi => ?_, fun i hi => ?_, by rw [g3 6 (by decide) (by decide)]; exact gr h13, by rw [g3 7 (by decide) (by decide)]; exact gr h14, h15⟩
  · rw [g 104 d (by decide) (by decide), g 105 d (by decide) (by decide), g 106 d (by decide) (by decide), g 107 d (by decide) (by decide)]; exact h8 d hd
  · rw [g 109 i (by decide) (by decide)]; exact h9 i hi
  · rw [g 110 i (by decide) (by decide)]; exact h10 i hi
  · rw [g 111 i (by decide) (by decide), g 112 i (by decide) (by decide)]; exact h11 i hi
  · rw [g 113 i (by decide) (by decide), g 114 i (by decide) (by decide)]; exact h12 i hi
theorem LandM.fr {A : LA} {M M' : Mem} {b : Nat} (h : LandM A M) (f : frM b M M') : LandM A M' := h.mv fun a j x y => f.1 a j (by omega) (by omega) (by omega)
theorem LandM.frP {A : LA} {M M' : Mem} (h : LandM A M) (f : frP M M') : LandM A M' := h.mv fun a j x y => f.1 a j (by omega)
theorem frP.frM {M M' : Mem} (b : Nat) (f : frP M M') : frM b M M' := ⟨fun a j x y z => f.1 a j z, f.2⟩
theorem rB_fr {M M' : Mem} {b c : Nat} (f : frM c M M') (h : b + 31 ≤ c ∨ c + 31 ≤ b) : rB M' b = rB M b := by
  funext j
  unfold rB
  by_cases hj : j < 31
  · rw [if_pos hj, if_pos hj, f.1 133 (b + j) (fun _ => by omega) (by decide) (by decide)]
  · rw [if_neg hj, if_neg hj]
theorem rB_p {M M' : Mem} {b : Nat} (f : frP M M') : rB M' b = rB M b := by
  funext j
  unfold rB
  rw [f.1 133 (b + j) (by decide)]
theorem inB_0 {x : Int32} {n : Nat} (h : inB x n) (hn : n < 2 ^ 31) : x = nI x.toNatClampNeg ∧ x.toNatClampNeg ≤ n := by
  obtain ⟨k, hk, rfl⟩ := h
  rw [nI_clamp (by omega)]
  exact ⟨rfl, hk⟩
theorem gathers_ok {M : Mem} {b : Nat} {h : Int32} (hb : b + 31 ≤ 186) : ∃ M', fX13_gathers M (nI b) h = some M' ∧ rB M' b = gathR (rB M b) h ∧ frM b M M' := by
  refine ⟨sI (sI M 133 b (kpt (gI M 133 b + h) 0 999)) 133 (b + 2) (kpt (gI M 133 (b + 2) + gI M 133 (b + 2) / 10) 0 999), ?_, ?_, ?_⟩
  · simp (disch := omega) only [fX13_gathers, kept_eq, b1_s, show (2 : Int32) = nI 2 from rfl, nI_add, show nI b + 0 = nI b from nI_add b 0, ldI_nI, stI_nI, gI_sj]
  · rw [rB_s (by decide), rB_s0]
    unfold gathR
    rw [rB_g (b := b) (i := 2) (by decide), show gI M 133 b = rB M b 0 from rB_g (i := 0) (by decide)]
  · exact (frM.rf.st (by omega) (by omega)).st (by omega) (by omega)
theorem harv_ok {A : LA} {M : Mem} {y : Nat} (hL : LandM A M) (hA : okA A) (hy : y < 2 ^ 31) : fX13_harvestOf M (nI y) = some (if aN A 1 = 0 then 20 else aF A 4 (y % aN A 1)) := by
  have h10 : aN A 1 ≤ 10 := hA.2.1
  unfold fX13_harvestOf
  rw [pu_s, hL.2.1]
  by_cases h0 : aN A 1 = 0
  · rw [if_pos h0, h0, if_pos nI_0]
  · rw [if_neg h0, if_neg (nI_ne0 (by omega) (by omega)), pu_s, nz_t (nI_ne0 (by omega) (by omega)), pk_rem hy (by omega) (by omega)]
    have hm := Nat.mod_lt y (show 0 < aN A 1 by omega)
    rw [ldI_nI (by omega) (by decide), hL.2.2.2.2.2.2.2.2.1 _ hm]
theorem way_ok {A : LA} {M : Mem} {b who : Nat} (hL : LandM A M) (hA : okA A) (hb : b + 31 ≤ 186) (hw : who < 2) {m : Nat} (hm : rB M b (10 + who) = nI m) (hm2 : m < 2 ^ 31) : fX13_wayOf M (nI b) (nI who) = some (wayR A (rB M b) who) := by
  have h6 : aN A (5 + who) ≤ 6 ∧ gI M 108 who = nI (aN A (5 + who)) := by
    rcases (show who = 0 ∨ who = 1 by omega) with h | h <;> subst h
    · exact ⟨hA.2.2.2.2.2.1, hL.2.2.2.2.2.1⟩
    · exact ⟨hA.2.2.2.2.2.2.1, hL.2.2.2.2.2.2.1⟩
  unfold fX13_wayOf wayR
  rw [ldI_nI hw (by decide), h6.2]
  by_cases h0 : aN A (5 + who) = 0
  · rw [if_pos h0, h0, if_pos nI_0]
  · rw [if_neg h0, if_neg (nI_ne0 (by omega) (by omega)), show (10 : Int32) = nI 10 from rfl, show (13 : Int32) = nI 13 from rfl, show (6 : Int32) = nI 6 from rfl, nI_add, nI_add, nI_add, pk_mul, nI_add]
    rw [ldI_nI (by omega) (by decide), ldI_nI hw (by decide), h6.2, nz_t (nI_ne0 (by omega) (by omega)), show b + 10 + who = b + (10 + who) by omega, rB_g (by omega), hm, pk_rem hm2 (by omega) (by omega), nI_clamp hm2]
    have hq := Nat.mod_lt m (show 0 < aN A (5 + who) by omega)
    rw [nI_add, ldI_nI (by omega) (by decide), show b + 13 + 6 * who + m % aN A (5 + who) = b + (13 + 6 * who + m % aN A (5 + who)) by omega, rB_g (by omega)]
theorem does_ok {A : LA} {M : Mem} {b d r : Nat} (hL : LandM A M) (hA : okA A) (hb : b + 31 ≤ 186) (hd : d < aN A 0) (hr : rB M b 4 = nI r) (hr2 : r < 2) :
    ∃ M', fX13_does M (nI b) (nI d) = some (if (doR A (rB M b) d).1 then 1 else 0, M') ∧ rB M' b = (doR A (rB M b) d).2 ∧ frM b M M' := by
  have h7 : aN A 0 ≤ 7 := hA.1
  obtain ⟨e1, e2, e3, e4⟩ := hL.2.2.2.2.2.2.2.1 d hd
  have g0 : gI M 133 b = rB M b 0 := rB_g (i := 0) (by decide)
  have hR : ruler (rB M b) = r := by unfold ruler; rw [hr, nI_clamp (by omega)]
  unfold fX13_does doR
  rw [if_neg (nI_neg1 (by omega)), ldI_nI (by omega) (by decide), show nI b + 0 = nI b from nI_add b 0, ldI_nI (by omega) (by decide), e1, g0]
  by_cases hc : rB M b 0 < aF A 0 d
  · rw [if_pos hc, if_pos hc]
    refine ⟨sI M 133 (b + 8) (gI M 133 (b + 8) + 1), ?_, ?_, frM.rf.st (by omega) (by omega)⟩
    · rw [show (8 : Int32) = nI 8 from rfl, nI_add, pu_s, ldI_nI (by omega) (by decide), stI_nI (by omega) (by decide)]; rfl
    · rw [rB_s (by decide), rB_g (by decide)]
  · rw [if_neg hc, if_neg hc]
    have gB : ∀ i, i < 31 → gI M 133 (b + i) = rB M b i := fun i h => rB_g h
    have hr9 : gI M 133 (b + 4) = nI r := by rw [rB_g (by decide)]; exact hr
    refine ⟨sI (sI (sI (sI M 133 b (rB M b 0 - aF A 0 d)) 133 (b + 1) (kpt (rB M b 1 + aF A 1 d) 0 99)) 133 (b + 2) (kpt (rB M b 2 + aF A 2 d) 0 999)) 133 (b + (6 + r)) (rB M b (6 + r) + aF A 3 d), ?_, ?_, ?_⟩
    · simp (disch := omega) only [kept_eq, b1_s, pu_s, show (2 : Int32) = nI 2 from rfl, show (1 : Int32) = nI 1 from rfl, show (4 : Int32) = nI 4 from rfl, show (6 : Int32) = nI 6 from rfl, nI_add, ldI_nI, stI_nI, gI_sj, gI_sa, hr9, e2, e3, e4, Nat.add_assoc, gB, g0, e1]
      rfl
    · rw [rB_s (by omega), rB_s (by decide), rB_s (by decide), rB_s0, hR]
    · exact (((frM.rf.st (by omega) (by omega)).st (by omega) (by omega)).st (by omega) (by omega)).st (by omega) (by omega)
