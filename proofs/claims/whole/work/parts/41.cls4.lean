/-! THE CLASS: years go by; copies of cities -/
theorem harvC_ok {A : LA} {M : Mem} {y : Nat} (hL : LandC A M) (hA : okA A) (hy : y < 2 ^ 31) : fX7_harvestOf M (nI y) = some (if aN A 1 = 0 then 20 else aF A 4 (y % aN A 1)) := by
  have h10 : aN A 1 ≤ 10 := hA.2.1
  unfold fX7_harvestOf
  simp only [pu_s, ck_t hL.1]
  rw [hL.2.2.1]
  by_cases h0 : aN A 1 = 0
  · rw [if_pos h0, h0, if_pos nI_0]
  · rw [if_neg h0, if_neg (nI_ne0 (by omega) (by omega)), if_neg (nI_pos hy), nz_t (nI_ne0 (by omega) (by omega)), pk_rem hy (by omega) (by omega)]
    have hm := Nat.mod_lt y (show 0 < aN A 1 by omega)
    rw [ldI_nI (by omega) (by decide), hL.2.2.2.2.2.2.2.2.2.1 _ hm]
theorem harvR_B {A : LA} {r : Nat → Int32} (hA : okA A) : inB (harvR A r) 99 := by
  unfold harvR
  split
  · exact ⟨20, by decide, rfl⟩
  · next h => exact hA.2.2.2.2.2.2.2.2.1 _ (Nat.mod_lt _ (by omega))
theorem wayC_ok {A : LA} {M : Mem} {k who Y Z : Nat} (hL : LandC A M) (hA : okA A) (hk : kd k = 2) (hw : who < 2) (hR : okR A Y Z (rC M k)) (hY : Y < 10 ^ 9) : fX7_wayDeed M k (nI who) = some (wayR A (rC M k) who) := by
  have h6 : aN A (5 + who) ≤ 6 ∧ gI M (gR M 28 0 + 5) who = nI (aN A (5 + who)) := by
    rcases (show who = 0 ∨ who = 1 by omega) with h | h <;> subst h
    · exact ⟨hA.2.2.2.2.2.1, hL.2.2.2.2.2.2.1⟩
    · exact ⟨hA.2.2.2.2.2.2.1, hL.2.2.2.2.2.2.2.1⟩
  have hm : ∃ m : Nat, m < 2 ^ 31 ∧ rC M k (10 + who) = nI m := by
    rcases (show who = 0 ∨ who = 1 by omega) with e | e <;> rw [e]
    · obtain ⟨m, q1, q2⟩ := hR.2.2.2.2.2.2.2.2.1
      exact ⟨m, by omega, q2⟩
    · obtain ⟨m, q1, q2⟩ := hR.2.2.2.2.2.2.2.2.2.1
      exact ⟨m, by omega, q2⟩
  obtain ⟨m, hm2, hm⟩ := hm
  unfold fX7_wayDeed wayR
  rw [ck_t hk]
  simp only [pu_s, ck_t hL.1]
  rw [ldI_nI hw (by decide), h6.2]
  by_cases h0 : aN A (5 + who) = 0
  · rw [if_pos h0, h0, if_pos nI_0]
  · rw [if_neg h0, if_neg (nI_ne0 (by omega) (by omega)), ldI_nI hw (by decide), nz_t (nI_ne0 (by omega) (by omega)), gC_a1 hw, hm, nI_clamp hm2, show (6 : Int32) = nI 6 from rfl, pk_mul, pk_rem hm2 (by omega) (by omega), nI_add]
    have hq := Nat.mod_lt m (show 0 < aN A (5 + who) by omega)
    rw [ldI_nI (by omega) (by decide), gC_a3 (by omega), show 13 + (who * 6 + m % aN A (5 + who)) = 13 + 6 * who + m % aN A (5 + who) by omega]
theorem live_ok {A : LA} {M : Mem} {k Y Z : Nat} {h d : Int32} (hL : LandC A M) (hA : okA A) (hk : kd k = 2) (hR : okR A Y Z (rC M k)) (hZ : Z < 10 ^ 8) (hh : inB h 99) (hd : dOk A d) :
    ∃ M', fX7_live M k h d = some (if (doX A (gathR (rC M k) h) d).1 = true then 1 else 0, M') ∧ rC M' k = liveR A (rC M k) h d ∧ frC k M M' := by
  obtain ⟨M1, h1, hB1, f1⟩ := reap_ok hk hR hh
  have hL1 := hL.fr hk f1
  have hR1 : okR A Y Z (rC M1 k) := by rw [hB1]; exact okR_gath hR _
  obtain ⟨M2, h2, hB2, f2⟩ := perform_ok hL1 hA hk hd hR1
  have hR2 : okR A Y (Z + 20) (rC M2 k) := by rw [hB2]; exact okR_doX hR1 hA hd (by omega)
  obtain ⟨M3, h3, hB3, f3⟩ := age_ok hk hR2
  have hR3 : okR A (Y + 1) (Z + 20) (rC M3 k) := by rw [hB3]; exact okR_age hR2
  obtain ⟨M4, h4, hB4, f4⟩ := turn_ok ((hL1.fr hk f2).fr hk f3) hA hk hR3
  refine ⟨M4, ?_, ?_, ((f1.tr f2).tr f3).tr f4⟩
  · unfold fX7_live
    rw [ck_t hk, h1, b1_s, h2, b2_s, h3, b1_s, h4, b1_s, hB1]
    split
    · exact zz1
    · exact zz0
  · rw [hB4, hB3, hB2, hB1]; rfl
theorem pass_l {A : LA} {k Y Z N : Nat} {r : Nat → Int32} (hA : okA A) (hk : kd k = 2) (hN : N < 10 ^ 5) (hR : okR A Y Z r) (hY : Y < 10 ^ 6) (hZ : Z < 10 ^ 6) : ∀ (d i fuel : Nat) (M : Mem), LandC A M → rC M k = yearsR A r i → i + d = N → d < fuel →
    ∃ M', fX7_passMany_l2 fuel M k (nI N) (nI i) = some M' ∧ rC M' k = yearsR A r N ∧ frC k M M' := by
  intro d
  induction d with
  | zero =>
    intro i fuel M hL hr hi hf
    obtain ⟨m, rfl⟩ : ∃ m, fuel = m + 1 := ⟨fuel - 1, by omega⟩
    rw [fX7_passMany_l2, ck_t hk, if_neg (by rw [lt_nI (by omega) (by omega)]; omega)]
    exact ⟨M, rfl, by rw [hr, show i = N by omega], frC.rf⟩
  | succ d ih =>
    intro i fuel M hL hr hi hf
    obtain ⟨m, rfl⟩ : ∃ m, fuel = m + 1 := ⟨fuel - 1, by omega⟩
    rw [fX7_passMany_l2, ck_t hk, if_pos (by rw [lt_nI (by omega) (by omega)]; omega)]
    have hRi := okR_years hR hA (by omega) i (by omega)
    rw [← hr] at hRi
    obtain ⟨y, hy, ey⟩ := hRi.2.2.2.1
    obtain ⟨hr1, hr2⟩ := ruler_lt hRi
    have hh : harvR A (rC M k) = if aN A 1 = 0 then 20 else aF A 4 (y % aN A 1) := by
      unfold harvR
      rw [ey, nI_clamp (by omega)]
    obtain ⟨M1, h1, hB1, f1⟩ := live_ok (h := harvR A (rC M k)) (d := wayR A (rC M k) (ruler (rC M k))) hL hA hk hRi (by omega) (harvR_B hA) (way_dOk hRi hr1)
    simp only [pu_s]
    rw [gC_f (by decide), ey, harvC_ok hL hA (by omega), b1_s, ← hh, gC_f (by decide), hr2, wayC_ok hL hA hk hr1 hRi (by omega), b1_s, h1, b2_s, nI_1]
    obtain ⟨M2, h2, hB2, f2⟩ := ih (i + 1) m M1 (hL.fr hk f1) (by rw [hB1, hr, yearsR_s]; rfl) (by omega) (by omega)
    exact ⟨M2, h2, hB2, f1.tr f2⟩
theorem pass_ok {A : LA} {k Y Z N : Nat} {M : Mem} (hL : LandC A M) (hA : okA A) (hk : kd k = 2) (hN : N < 10 ^ 4) (hR : okR A Y Z (rC M k)) (hY : Y < 10 ^ 6) (hZ : Z < 10 ^ 6) :
    ∃ M', fX7_passMany M k (nI N) = some M' ∧ rC M' k = yearsR A (rC M k) N ∧ frC k M M' := by
  unfold fX7_passMany
  rw [ck_t hk]
  exact pass_l hA hk (by omega) hR hY hZ N 0 FU M hL rfl (by omega) (by show N < 100000; omega)
theorem alone_ok {A : LA} {k Y Z : Nat} {M : Mem} (hL : LandC A M) (hA : okA A) (hk : kd k = 2) (hR : okR A Y Z (rC M k)) (hY : Y < 10 ^ 8) (hZ : Z < 10 ^ 8) : ∃ M', fX7_passAlone M k = some M' ∧ rC M' k = aloneR A (rC M k) ∧ frC k M M' := by
  obtain ⟨y, hy, ey⟩ := hR.2.2.2.1
  obtain ⟨hr1, hr2⟩ := ruler_lt hR
  have hh : harvR A (rC M k) = if aN A 1 = 0 then 20 else aF A 4 (y % aN A 1) := by
    unfold harvR
    rw [ey, nI_clamp (by omega)]
  obtain ⟨M1, h1, hB1, f1⟩ := reap_ok (h := harvR A (rC M k)) hk hR (harvR_B hA)
  have hL1 := hL.fr hk f1
  have hR1 : okR A Y Z (rC M1 k) := by rw [hB1]; exact okR_gath hR _
  obtain ⟨hs1, hs2⟩ := ruler_lt hR1
  have hrr : ruler (rC M1 k) = ruler (rC M k) := by rw [hB1]; exact ruler_gath
  obtain ⟨M2, h2, hB2, f2⟩ := perform_ok (d := wayR A (rC M k) (ruler (rC M k))) hL1 hA hk (way_dOk hR hr1) hR1
  have hR2 : okR A Y (Z + 20) (rC M2 k) := by rw [hB2]; exact okR_doX hR1 hA (way_dOk hR hr1) (by omega)
  obtain ⟨M3, h3, hB3, f3⟩ := age_ok hk hR2
  refine ⟨M3, ?_, ?_, (f1.tr f2).tr f3⟩
  · unfold fX7_passAlone
    rw [ck_t hk]
    simp only [pu_s]
    rw [gC_f (by decide), ey, harvC_ok hL hA (by omega), b1_s, ← hh, h1, b1_s, gC_f (by decide), hs2, wayC_ok hL1 hA hk hs1 hR1 (by omega), b1_s, hB1, wayR_gath, ruler_gath, h2, b2_s, h3, b1_s]
  · rw [hB3, hB2, hB1]; rfl
-- copies
theorem gI_ai {M : Mem} {a b j : Nat} {f : Nat → Int32} : gI (aI M a f) b j = if b = a then f j else gI M b j := by
  show va_up M.1 a f b j = _
  unfold va_up
  by_cases h : b = a
  · rw [if_pos h, if_pos h]
  · rw [if_neg h, if_neg h]; rfl
theorem cp_nI {β : Type} {M : Mem} {a na sp c nc dp n : Nat} {k : Mem → Option β} (h1 : sp + n ≤ na) (h2 : dp + n ≤ nc) (h3 : na < 2 ^ 31) (h4 : nc < 2 ^ 31) : cpI M a na (nI sp) c nc (nI dp) (nI n) k = k (aI M c (va_cpy (gI M a) (gI M c) sp dp n)) := by
  unfold cpI
  rw [nI_clamp (by omega), nI_clamp (by omega), nI_clamp (by omega), if_neg]
  · rfl
  · rintro (q | q | q | q | q)
    · exact nI_pos (by omega) q
    · exact nI_pos (by omega) q
    · exact nI_pos (by omega) q
    · omega
    · omega
theorem frC.ai {k a : Nat} {M M1 : Mem} {f : Nat → Int32} (h : frC k M M1) (ha : k ≤ a ∧ a ≤ k + 4 ∨ a = 46 ∨ a = 47 ∨ a = 48) : frC k M (aI M1 a f) := ⟨fun c j x y z u => by
  rw [gI_ai, if_neg (by omega)]; exact h.1 c j x y z u, h.2⟩
theorem pl_arr : ∀ j, j < 31 → plA j = 0 ∧ plJ j < 9 ∨ plA j = 1 ∧ plJ j < 2 ∨ plA j = 2 ∧ plJ j < 2 ∨ plA j = 3 ∧ plJ j < 12 ∨ plA j = 4 ∧ plJ j < 6 := by decide +kernel
/-- the row at x is y's so far where P says so -/
def cpd (M : Mem) (x y : Nat) (P : Nat → Prop) (M1 : Mem) : Prop := frC x M M1 ∧ ∀ j, j < 31 → P j → rC M1 x j = rC M y j
theorem cpd.f {M M1 : Mem} {x y : Nat} {P : Nat → Prop} (h : cpd M x y P M1) (hy : kd y = 2) (hxy : x + 4 < y ∨ y + 4 < x) (j0 i : Nat) (h0 : j0 < 31) (ha : plA j0 = 0) (hi : plJ j0 = i) : cpd M x y (fun j => j = j0 ∨ P j) (sI M1 x i (gI M1 y i)) := by
  have hyy := city_cases hy
  refine ⟨h.1.st (by omega), fun j hj hP => ?_⟩
  have e := rC_s (M := M1) (k := x) (i := j0) (v := gI M1 y i) h0
  rw [ha, hi] at e
  rw [show rC (sI M1 x i (gI M1 y i)) x = _ from e, upd_a]
  by_cases hq : j = j0
  · rw [if_pos hq, h.1.1 y i (by omega) (by omega) (by omega) (by omega), hq]
    unfold rC
    rw [if_pos h0, ha, hi]; rfl
  · rw [if_neg hq]
    exact h.2 j hj (hP.resolve_left hq)
theorem cpd.a {M M1 : Mem} {x y : Nat} {P : Nat → Prop} (h : cpd M x y P M1) (hy : kd y = 2) (hxy : x + 4 < y ∨ y + 4 < x) (a n : Nat) (ha : a ≤ 4) (hn : ∀ j, j < 31 → plA j = a → plJ j < n) : cpd M x y (fun j => plA j = a ∨ P j) (aI M1 (x + a) (va_cpy (gI M1 (y + a)) (gI M1 (x + a)) 0 0 n)) := by
  have hyy := city_cases hy
  refine ⟨h.1.ai (by omega), fun j hj hP => ?_⟩
  by_cases hq : plA j = a
  · unfold rC
    have hn9 := hn j hj hq
    rw [if_pos hj, if_pos hj, hq, gI_ai, if_pos rfl]
    unfold va_cpy
    rw [if_pos (by omega), h.1.1 (y + a) _ (by omega) (by omega) (by omega) (by omega)]
    congr 1
    omega
  · have := h.2 j hj (hP.resolve_left hq)
    rw [← this]
    unfold rC
    rw [if_pos hj, if_pos hj, gI_ai, if_neg (by omega)]
theorem become_ok {M : Mem} {x y : Nat} (hx : kd x = 2) (hy : kd y = 2) (hxy : x + 4 < y ∨ y + 4 < x) : ∃ M', fX3_become M x y = some M' ∧ rC M' x = rC M y ∧ frC x M M' := by
  have h0 : cpd M x y (fun _ => False) M := ⟨frC.rf, fun j _ h => h.elim⟩
  have h1 := ((((((((h0.f hy hxy 0 0 (by decide) (by decide) (by decide)).f hy hxy 1 1 (by decide) (by decide) (by decide)).f hy hxy 2 2 (by decide) (by decide) (by decide)).f hy hxy 3 3 (by decide) (by decide) (by decide)).f hy hxy 4 4 (by decide) (by decide) (by decide)).f hy hxy 5 5 (by decide) (by decide) (by decide)).f hy hxy 8 6 (by decide) (by decide) (by decide)).f hy hxy 9 7 (by decide) (by decide) (by decide)).f hy hxy 12 8 (by decide) (by decide) (by decide)
  have h2 := (((h1.a hy hxy 1 2 (by decide) (by decide)).a hy hxy 2 2 (by decide) (by decide)).a hy hxy 3 12 (by decide) (by decide)).a hy hxy 4 6 (by decide) (by decide)
  refine ⟨_, ?_, ?_, h2.1⟩
  · unfold fX3_become
    rw [ck_t hx, ck_t hy]
    simp only [pu_s]
    rw [show (0 : Int32) = nI 0 from rfl, show (2 : Int32) = nI 2 from rfl, show (12 : Int32) = nI 12 from rfl, show (6 : Int32) = nI 6 from rfl]
    rw [cp_nI (by decide) (by decide) (by decide) (by decide), cp_nI (by decide) (by decide) (by decide) (by decide), cp_nI (by decide) (by decide) (by decide) (by decide), cp_nI (by decide) (by decide) (by decide) (by decide)]
  · funext j
    by_cases hj : j < 31
    · refine h2.2 j hj ?_
      exact (by decide +kernel : ∀ j, j < 31 → (plA j = 4 ∨ plA j = 3 ∨ plA j = 2 ∨ plA j = 1 ∨ j = 12 ∨ j = 9 ∨ j = 8 ∨ j = 5 ∨ j = 4 ∨ j = 3 ∨ j = 2 ∨ j = 1 ∨ j = 0 ∨ False)) j hj
    · unfold rC
      rw [if_neg hj, if_neg hj]
