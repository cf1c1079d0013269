/-! QUESTIONS: games -/
/-- another city of the class at work -/
def cV (A : LA) (M : Mem) (k : Nat) (r : Nat → Int32) (M1 : Mem) : Prop := RO M M1 ∧ LandC A M1 ∧ rC M1 k = r ∧ rC M1 81 = rB M 0
theorem v_start {A : LA} {M M0 : Mem} {k : Nat} (hk : kd k = 2) (hk2 : 50 ≤ k ∧ k + 4 ≤ 80) (h : Rel A M) (f : RO M M0) : ∃ M1, fX3_become M0 k 81 = some M1 ∧ cV A M k (rB M 0) M1 ∧ frC k M0 M1 := by
  obtain ⟨M1, h1, h2, h3⟩ := become_ok (M := M0) (x := k) (y := 81) hk (by decide) (by omega)
  have h0 := h.ro f
  refine ⟨M1, h1, ⟨f.tr (h3.RO (Or.inl hk2)), h0.2.1.fr hk h3, ?_, ?_⟩, h3⟩
  · rw [h2, rC81 h0, f.rB]
  · rw [rC_fr h3 (by decide) (by omega), rC81 h0, f.rB]
/-- whether a deed told for the next year is done -/
def doneR (A : LA) (r : Nat → Int32) (d : Int32) : Bool := (doX A (gathR r (harvR A r)) d).1
theorem v_live {A : LA} {M M1 : Mem} {k Y Z : Nat} {r : Nat → Int32} {d : Int32} (hk : kd k = 2) (hk2 : 50 ≤ k ∧ k + 4 ≤ 80) (hA : okA A) (h : cV A M k r M1) (hR : okR A Y Z r) (hY : Y < 10 ^ 6) (hZ : Z < 10 ^ 6) (hd : dOk A d) : fX7_harvestOf M1 (gI M1 k 3) = some (harvR A r) ∧ ∃ M2, fX7_live M1 k (harvR A r) d = some (if doneR A r d = true then 1 else 0, M2) ∧ cV A M k (liveR A r (harvR A r) d) M2 ∧ frC k M1 M2 := by
  obtain ⟨f, hL, e, e81⟩ := h
  have hRC : okR A Y Z (rC M1 k) := by rw [e]; exact hR
  obtain ⟨y, hy, ey⟩ := hRC.2.2.2.1
  have hh : harvR A (rC M1 k) = if aN A 1 = 0 then 20 else aF A 4 (y % aN A 1) := by
    unfold harvR
    rw [ey, nI_clamp (by omega)]
  obtain ⟨M2, p1, p2, p3⟩ := live_ok (h := harvR A r) (d := d) hL hA hk hRC (by omega) (harvR_B hA) hd
  refine ⟨?_, M2, ?_, ⟨f.tr (p3.RO (Or.inl hk2)), hL.fr hk p3, by rw [p2, e], by rw [rC_fr p3 (by decide) (by omega), e81]⟩, p3⟩
  · rw [gC_f (by decide), ey, harvC_ok hL hA (by omega), ← hh, e]
  · rw [p1, e]; rfl
theorem m_live {A : LA} {M M1 : Mem} {r : Nat → Int32} {Y Z : Nat} {d : Int32} (hA : okA A) (h : mW A M r M1) (hR : okR A Y Z r) (hY : Y < 10 ^ 6) (hZ : Z < 10 ^ 6) (hd : dOk A d) : fX13_harvestOf M1 (gI M1 133 34) = some (harvR A r) ∧ ∃ M2 M3 M4, fX13_gathers M1 31 (harvR A r) = some M2 ∧ fX13_does M2 31 d = some (if doneR A r d = true then 1 else 0, M3) ∧ LandM A M3 ∧ fX13_ends M3 31 1 = some M4 ∧ mW A M (liveR A r (harvR A r) d) M4 := by
  obtain ⟨f, hL, e, e0, ht⟩ := h
  have hRM : okR A Y Z (rB M1 31) := by rw [e]; exact hR
  obtain ⟨y, hy, ey⟩ := hRM.2.2.2.1
  have hh : harvR A (rB M1 31) = if aN A 1 = 0 then 20 else aF A 4 (y % aN A 1) := by
    unfold harvR
    rw [ey, nI_clamp (by omega)]
  obtain ⟨M2, h2, hB2, f2⟩ := gathers_ok (M := M1) (b := 31) (h := harvR A r) (by decide)
  have hL2 := hL.fr f2
  have hR2 : okR A Y Z (rB M2 31) := by rw [hB2]; exact okR_gath hRM _
  obtain ⟨M3, h3, hB3, f3⟩ := doX_ok (d := d) hL2 hA (by decide) hd hR2
  have hR3 : okR A Y (Z + 20) (rB M3 31) := by rw [hB3]; exact okR_doX hR2 hA hd (by omega)
  obtain ⟨M4, h4, hB4, f4⟩ := ends_ok (asks := 1) (hL2.fr f3) hA (by decide) hR3
  have f9 := (f2.tr f3).tr f4
  refine ⟨?_, M2, M3, M4, h2, ?_, hL2.fr f3, h4, f.tr (f9.RO (by decide)), hL.fr f9, ?_, ?_, ?_⟩
  · rw [show gI M1 133 34 = rB M1 31 3 from rB_g (b := 31) (i := 3) (by decide), ey, harv_ok hL hA (by omega), ← hh, e]
  · rw [show (31 : Int32) = nI 31 from rfl, h3, hB2, e]; rfl
  · rw [hB4, if_neg (by decide), hB3, hB2, e]; rfl
  · rw [rB_fr f9 (by decide), e0]
  · rw [f9.1 103 0 (fun q => absurd q (by decide)) (by decide) (by decide)]; exact ht
def gv (A : LA) (r : Nat → Int32) (d : Nat) : Int32 := if doneR A r (nI d) = true then aF A 3 d else 0
def gs (A : LA) (r : Nat → Int32) (d : Nat) : Nat → Int32 := liveR A r (harvR A r) (nI d)
def gn (A : LA) (r : Nat → Int32) (w d e : Nat) : Int32 := (if w = 0 then gv A r d else gv A (gs A r d) e) - (if d = e then 3 else 0)
def fsN (d e k : Nat) : Nat := if k < 2 then d else e
def snN (d e k : Nat) : Nat := if k % 2 = 0 then d else e
def rst (A : LA) (r : Nat → Int32) (d e k : Nat) : Bool := decide (¬ gn A r 0 (fsN d e k) (snN d e k) < gn A r 0 (fsN e d k) (snN d e k)) && decide (¬ gn A r 1 (fsN d e k) (snN d e k) < gn A r 1 (fsN d e k) (snN e d k))
def gamL (R : Nat → Bool) (w : Int32) : Nat → Nat → Int32 → Int32 → Int32
  | 0, _, n, f => if w = 0 then n else f
  | c + 1, k, n, f => if R k = true then gamL R w c (k + 1) (n + 1) (if f = -1 then nI (10 * (k / 2) + k % 2) else f) else gamL R w c (k + 1) n f
-- the reference
theorem gainsM_s {A : LA} {M M1 : Mem} {r : Nat → Int32} {Y Z w k d e n : Nat} {v : Int32} (hA : okA A) (h : mW A M r M1) (hR : okR A Y Z r) (hY : Y < 10 ^ 6) (hZ : Z < 10 ^ 6) (hd : d < aN A 0) (he : e < aN A 0) (hk : k ≤ w) (hw : w < 2) : ∃ M2, fX13_gains_l13 (n + 1) M1 (nI w) (nI d) (nI e) v (nI k) = fX13_gains_l13 n M2 (nI w) (nI d) (nI e) (gv A r (if k = 0 then d else e)) (nI (k + 1)) ∧ mW A M (gs A r (if k = 0 then d else e)) M2 := by
  have h7 := hA.1
  have go : ∀ x, x < aN A 0 → ∃ M2, (b1 (fX13_harvestOf M1 (gI M1 133 34)) fun vq3 => b1 (fX13_gathers M1 31 vq3) fun Mq4 => fX13_gains_b46 (fX13_gains_l13 n) Mq4 (nI w) (nI d) (nI e) (nI k) (nI x)) = fX13_gains_l13 n M2 (nI w) (nI d) (nI e) (gv A r x) (nI (k + 1)) ∧ mW A M (gs A r x) M2 := by
    intro x hx
    obtain ⟨p0, M2, M3, M4, p1, p2, p3, p4, p5⟩ := m_live (d := nI x) hA h hR hY hZ (Or.inr ⟨x, hx, rfl⟩)
    refine ⟨M4, ?_, p5⟩
    rw [p0, b1_s, p1, b1_s]
    unfold fX13_gains_b46
    rw [p2, b2_s]
    unfold gv
    by_cases hq : doneR A r (nI x) = true
    · rw [if_pos hq, if_pos hq, if_neg (by decide), ldI_nI (by omega) (by decide), (p3.2.2.2.2.2.2.2.1 x hx).2.2.2]
      unfold fX13_gains_b70
      rw [p4, b1_s, pu_s, nI_1]
    · rw [if_neg hq, if_neg hq, if_pos rfl]
      unfold fX13_gains_b70
      rw [p4, b1_s, pu_s, nI_1]
  rw [fX13_gains_l13, if_neg (by rw [lt_nI (by omega) (by omega)]; omega), show (34 : Int32) = nI 34 from rfl, ldI_nI (by decide) (by decide)]
  by_cases hk0 : k = 0
  · subst hk0
    rw [if_pos (show (0 : Nat) = 0 from rfl)]
    simp only [if_pos (show nI 0 = 0 from rfl)]
    exact go d hd
  · rw [if_neg hk0]
    simp only [if_neg (nI_ne0 (n := k) (by omega) (by omega))]
    exact go e he
theorem gainsM_l {A : LA} {M D1 : Mem} {r : Nat → Int32} {w d e : Nat} (hA : okA A) (v1 : mW A M r D1) (hR : okR A 999 19980 r) (hd : d < aN A 0) (he : e < aN A 0) (hw : w < 2) (n : Nat) : ∃ M2, fX13_gains_l13 (n + 1 + 1 + 1) D1 (nI w) (nI d) (nI e) 0 (nI 0) = some (gn A r w d e, M2) ∧ RO M M2 ∧ gI M2 103 0 = 0 := by
  have h7 := hA.1
  have fin : ∀ (n : Nat) (M9 : Mem) (v : Int32), fX13_gains_l13 (n + 1) M9 (nI w) (nI d) (nI e) v (nI (w + 1)) = some (v - (if d = e then 3 else 0), M9) := by
    intro n M9 v
    rw [fX13_gains_l13, if_pos (by rw [lt_nI (by omega) (by omega)]; omega)]
    by_cases q : d = e
    · rw [if_pos q, if_pos (by rw [q])]
    · rw [if_neg q, if_neg (by rw [eq_nI (by omega) (by omega)]; exact q), Int32.sub_zero]
  obtain ⟨D2, d2, v2⟩ := gainsM_s (v := 0) (w := w) (k := 0) (n := n + 1 + 1) hA v1 hR (by decide) (by decide) hd he (by omega) hw
  rw [if_pos (show (0 : Nat) = 0 from rfl)] at d2 v2
  rcases (show w = 0 ∨ w = 1 by omega) with q | q
  · subst q
    refine ⟨D2, ?_, v2.1, v2.2.2.2.2⟩
    rw [d2, fin]
    unfold gn
    rw [if_pos (show (0 : Nat) = 0 from rfl)]
  · subst q
    have hR2 : okR A (999 + 1) (19980 + 20) (gs A r d) := okR_live hR hA (Or.inr ⟨d, hd, rfl⟩) (by decide)
    obtain ⟨D3, d3, v3⟩ := gainsM_s (v := gv A r d) (w := 1) (k := 0 + 1) (n := n + 1) hA v2 hR2 (by decide) (by decide) hd he (by omega) hw
    rw [if_neg (show ¬ (0 + 1 : Nat) = 0 by decide)] at d3 v3
    refine ⟨D3, ?_, v3.1, v3.2.2.2.2⟩
    rw [d2, d3, fin]
    unfold gn
    rw [if_neg (show ¬ (1 : Nat) = 0 by decide)]
theorem gainsM_ok {A : LA} {M M1 : Mem} {w d e : Nat} (h : Rel A M) (f : RO M M1) (h0 : gI M1 103 0 = 0) (hd : d < aN A 0) (he : e < aN A 0) (hw : w < 2) : ∃ M2, fX13_gains M1 (nI w) (nI d) (nI e) = some (gn A (rB M 0) w d e, M2) ∧ RO M M2 ∧ gI M2 103 0 = 0 := by
  obtain ⟨D1, d1, v1⟩ := m_start h f h0
  obtain ⟨D2, d2, v2⟩ := gainsM_l h.1 v1 h.okR hd he hw 99997
  refine ⟨D2, ?_, v2⟩
  unfold fX13_gains
  rw [d1, b1_s, show FU = 99997 + 1 + 1 + 1 from rfl]
  exact d2
theorem place_m : ∀ k, k < 4 → (10 : Int32) * (nI k / 2) + (nI k - nI k / 2 * 2) = nI (10 * (k / 2) + k % 2) := by
  intro k hk
  rcases (show k = 0 ∨ k = 1 ∨ k = 2 ∨ k = 3 by omega) with q | q | q | q <;> subst q <;> decide
theorem place_c : ∀ k, k < 4 → (10 : Int32) * ((nI k : Int32) >>> (1 &&& 31 : Int32)) + (nI k &&& 1) = nI (10 * (k / 2) + k % 2) := by
  intro k hk
  rcases (show k = 0 ∨ k = 1 ∨ k = 2 ∨ k = 3 by omega) with q | q | q | q <;> subst q <;> decide
theorem gamM_s {A : LA} {M M1 : Mem} {k x x2 y y2 : Nat} {X1 X2 X3 n f9 : Int32} (h : Rel A M) (f : RO M M1) (h0 : gI M1 103 0 = 0) (hk : k < 4) (hx : x < aN A 0) (hx2 : x2 < aN A 0) (hy : y < aN A 0) (hy2 : y2 < aN A 0) (a : Mem → Int32 → Int32 → Int32 → Int32 → Int32 → Int32 → Option (Int32 × Mem)) : ∃ M2, fX13_game_b119 a M1 X1 X2 X3 n f9 (nI k) (nI x) (nI x2) (nI y) (nI y2) = (if (decide (¬ gn A (rB M 0) 0 x y < gn A (rB M 0) 0 x2 y) && decide (¬ gn A (rB M 0) 1 x y < gn A (rB M 0) 1 x y2)) = true then a M2 X1 X2 X3 (n + 1) (if f9 = -1 then nI (10 * (k / 2) + k % 2) else f9) (nI (k + 1)) else a M2 X1 X2 X3 n f9 (nI (k + 1))) ∧ RO M M2 ∧ gI M2 103 0 = 0 := by
  obtain ⟨M2, p1, f2, t2⟩ := gainsM_ok (w := 0) h f h0 hx2 hy (by decide)
  obtain ⟨M3, p3, f3, t3⟩ := gainsM_ok (w := 0) h f2 t2 hx hy (by decide)
  obtain ⟨M4, p4, f4, t4⟩ := gainsM_ok (w := 1) h f3 t3 hx hy2 (by decide)
  obtain ⟨M5, p5, f5, t5⟩ := gainsM_ok (w := 1) h f4 t4 hx hy (by decide)
  unfold fX13_game_b119
  rw [show (0 : Int32) = nI 0 from rfl, p1, b2_s, p3, b2_s]
  by_cases q1 : gn A (rB M 0) 0 x y < gn A (rB M 0) 0 x2 y
  · refine ⟨M3, ?_, f3, t3⟩
    rw [if_pos q1, if_neg (by simp [q1])]
    unfold fX13_game_b189
    rw [pu_s, nI_1]
  · refine ⟨M5, ?_, f5, t5⟩
    rw [if_neg q1, show fX13_gains M3 1 (nI x) (nI y2) = _ from p4, b2_s, show fX13_gains M4 1 (nI x) (nI y) = _ from p5, b2_s]
    by_cases q2 : gn A (rB M 0) 1 x y < gn A (rB M 0) 1 x y2
    · rw [if_pos q2, if_neg (by simp [q2])]
      unfold fX13_game_b189
      rw [pu_s, nI_1]
    · rw [if_neg q2, if_pos (by simp [q1, q2]), pu_s]
      by_cases q3 : f9 = -1
      · rw [if_pos q3, if_pos q3, place_m k hk, pu_s]
        unfold fX13_game_b189
        rw [pu_s, nI_1]
      · rw [if_neg q3, if_neg q3]
        unfold fX13_game_b189
        rw [pu_s, nI_1]
theorem half_m : ∀ k, k < 4 → (nI k / 2 = 0 ↔ k < 2) ∧ (nI k - nI k / 2 * 2 = 0 ↔ k % 2 = 0) := by
  intro k hk
  rcases (show k = 0 ∨ k = 1 ∨ k = 2 ∨ k = 3 by omega) with q | q | q | q <;> subst q <;> decide
theorem gamM_l {A : LA} {M : Mem} {d e : Nat} {w : Int32} (h : Rel A M) (hd : d < aN A 0) (he : e < aN A 0) : ∀ (c k fuel : Nat) (M1 : Mem) (n f9 : Int32), RO M M1 → gI M1 103 0 = 0 → k + c = 4 → c < fuel → ∃ M2, fX13_game_l59 fuel M1 (nI d) (nI e) w n f9 (nI k) = some (gamL (rst A (rB M 0) d e) w c k n f9, M2) ∧ RO M M2 ∧ gI M2 103 0 = 0 := by
  intro c
  induction c with
  | zero =>
    intro k fuel M1 n f9 f h0 hk hf
    obtain ⟨m, rfl⟩ : ∃ m, fuel = m + 1 := ⟨fuel - 1, by omega⟩
    refine ⟨M1, ?_, f, h0⟩
    rw [fX13_game_l59, show (4 : Int32) = nI 4 from rfl, if_neg (by rw [lt_nI (by omega) (by omega)]; omega), gamL]
    by_cases hw : w = 0
    · rw [if_pos hw, if_pos hw]
    · rw [if_neg hw, if_neg hw]
  | succ c ih =>
    intro k fuel M1 n f9 f h0 hk hf
    obtain ⟨m, rfl⟩ : ∃ m, fuel = m + 1 := ⟨fuel - 1, by omega⟩
    have hk4 : k < 4 := by omega
    have hfs : ∀ a b, a < aN A 0 → b < aN A 0 → fsN a b k < aN A 0 := fun a b qa qb => by unfold fsN; split <;> assumption
    have hsn : ∀ a b, a < aN A 0 → b < aN A 0 → snN a b k < aN A 0 := fun a b qa qb => by unfold snN; split <;> assumption
    obtain ⟨M2, p1, f2, t2⟩ := gamM_s (X1 := nI d) (X2 := nI e) (X3 := w) (n := n) (f9 := f9) h f h0 hk4 (hfs d e hd he) (hfs e d he hd) (hsn d e hd he) (hsn e d he hd) (fX13_game_l59 m)
    have key : fX13_game_l59 (m + 1) M1 (nI d) (nI e) w n f9 (nI k) = fX13_game_b119 (fX13_game_l59 m) M1 (nI d) (nI e) w n f9 (nI k) (nI (fsN d e k)) (nI (fsN e d k)) (nI (snN d e k)) (nI (snN e d k)) := by
      rw [fX13_game_l59, show (4 : Int32) = nI 4 from rfl, if_pos (by rw [lt_nI (by omega) (by omega)]; omega)]
      unfold fX13_game_b77 fX13_game_b91 fX13_game_b105 fsN snN
      by_cases q1 : k < 2
      · have q1' := (half_m k hk4).1.mpr q1
        by_cases q2 : k % 2 = 0
        · have q2' := (half_m k hk4).2.mpr q2
          simp only [if_pos q1, if_pos q1', if_pos q2, if_pos q2']
        · have q2' := fun z => q2 ((half_m k hk4).2.mp z)
          simp only [if_pos q1, if_pos q1', if_neg q2, if_neg q2']
      · have q1' := fun z => q1 ((half_m k hk4).1.mp z)
        by_cases q2 : k % 2 = 0
        · have q2' := (half_m k hk4).2.mpr q2
          simp only [if_neg q1, if_neg q1', if_pos q2, if_pos q2']
        · have q2' := fun z => q2 ((half_m k hk4).2.mp z)
          simp only [if_neg q1, if_neg q1', if_neg q2, if_neg q2']
    rw [show (decide (¬ gn A (rB M 0) 0 (fsN d e k) (snN d e k) < gn A (rB M 0) 0 (fsN e d k) (snN d e k)) && decide (¬ gn A (rB M 0) 1 (fsN d e k) (snN d e k) < gn A (rB M 0) 1 (fsN d e k) (snN e d k))) = rst A (rB M 0) d e k from rfl] at p1
    rw [key, p1, gamL]
    by_cases hr : rst A (rB M 0) d e k = true
    · rw [if_pos hr, if_pos hr]
      exact ih (k + 1) m M2 _ _ f2 t2 (by omega) (by omega)
    · rw [if_neg hr, if_neg hr]
      exact ih (k + 1) m M2 _ _ f2 t2 (by omega) (by omega)
-- the class
theorem cV.s59 {A : LA} {M M1 : Mem} {r : Nat → Int32} {a i : Nat} {v : Int32} (ha : a = 59 ∨ a = 60) (h : cV A M 50 r M1) : cV A M 50 r (sI M1 a i v) := ⟨h.1.st (by unfold scr; omega), h.2.1.mv gR_sI (fun c j x => gI_sa (by omega)), by rw [rC_n (by omega)]; exact h.2.2.1, by rw [rC_n (by omega)]; exact h.2.2.2⟩
theorem gloC {A : LA} {M M1 : Mem} (f : RO M M1) (hL : LandC A M1) {x : Nat} (hx : x < aN A 0) : gI M1 (gR M 28 0 + 4) x = aF A 3 x := by
  have := (hL.2.2.2.2.2.2.2.2.1 x hx).2.2.2
  rw [f.gR] at this
  exact this
theorem playC_b {A : LA} {M M1 : Mem} {k f9 s9 : Nat} {less X2 X3 : Int32} (h : Rel A M) (f : RO M M1) (hk : k < 4) (hf : f9 < aN A 0) (hs : s9 < aN A 0) (a : Mem → Nat → Int32 → Int32 → Nat → Int32 → Option Mem) : ∃ M2, fX2_playOut_b57 a M1 81 X2 X3 (gR M 28 0) (nI k) (nI f9) (nI s9) less = a M2 81 X2 X3 (gR M 28 0) (nI (k + 1)) ∧ RO M M2 ∧ (∀ c j, c = 59 ∨ c = 60 → j ≠ k → gI M2 c j = gI M1 c j) ∧ gI M2 59 k = gv A (rB M 0) f9 - less ∧ gI M2 60 k = gv A (gs A (rB M 0) f9) s9 - less := by
  have hA := h.1
  have h7 := hA.1
  have k50 : kd 50 = 2 := by decide
  have k81 : kd 81 = 2 := by decide
  have kL : kd (gR M 28 0) = 4 := h.2.1.1
  have hR := h.okR
  have hR2 : okR A (999 + 1) (19980 + 20) (gs A (rB M 0) f9) := okR_live hR hA (Or.inr ⟨f9, hf, rfl⟩) (by decide)
  obtain ⟨C1, c1, w1, g1⟩ := v_start k50 (by decide) h f
  obtain ⟨q0, C2, c2, w2, g2⟩ := v_live (d := nI f9) k50 (by decide) hA w1 hR (by decide) (by decide) (Or.inr ⟨f9, hf, rfl⟩)
  have w3 : cV A M 50 (gs A (rB M 0) f9) (sI C2 59 k (gv A (rB M 0) f9 - less)) := w2.s59 (Or.inl rfl)
  obtain ⟨q3, C4, c4, w4, g4⟩ := v_live (d := nI s9) k50 (by decide) hA w3 hR2 (by decide) (by decide) (Or.inr ⟨s9, hs, rfl⟩)
  have e119 : fX2_playOut_b119 a C2 81 X2 X3 (gR M 28 0) (nI k) (nI s9) less (gv A (rB M 0) f9) (nI k) = a (sI C4 60 k (gv A (gs A (rB M 0) f9) s9 - less)) 81 X2 X3 (gR M 28 0) (nI (k + 1)) := by
    unfold fX2_playOut_b119
    rw [ck_t k81, ck_t kL, stI_nI (by omega) (by decide), pu_s, q3, b1_s, c4, b2_s]
    have e175 : ∀ v, fX2_playOut_b175 a C4 81 X2 X3 (gR M 28 0) (nI k) less v (nI k) = a (sI C4 60 k (v - less)) 81 X2 X3 (gR M 28 0) (nI (k + 1)) := by
      intro v
      unfold fX2_playOut_b175
      rw [ck_t k81, ck_t kL, stI_nI (by omega) (by decide), pu_s, nI_1]
    unfold gv
    by_cases hq : doneR A (gs A (rB M 0) f9) (nI s9) = true
    · rw [if_pos hq, if_pos hq, if_neg (by decide), ldI_nI (by omega) (by decide), gloC w4.1 w4.2.1 hs, e175]
    · rw [if_neg hq, if_neg hq, if_pos rfl, e175]
  have g59 : ∀ {X Y : Mem} {c j : Nat}, frC 50 X Y → c = 59 ∨ c = 60 → gI Y c j = gI X c j := fun q hc => q.1 _ _ (by omega) (by omega) (by omega) (by omega)
  refine ⟨_, ?_, (w4.s59 (i := k) (v := gv A (gs A (rB M 0) f9) s9 - less) (Or.inr rfl)).1, ?_, ?_, gI_ss⟩
  · unfold fX2_playOut_b57
    rw [ck_t k81, ck_t kL, c1, b1_s, pu_s, q0, b1_s, c2, b2_s]
    rw [← e119]
    unfold gv
    by_cases hq : doneR A (rB M 0) (nI f9) = true
    · rw [if_pos hq, if_pos hq, if_neg (by decide), ldI_nI (by omega) (by decide), gloC w2.1 w2.2.1 hf]
    · rw [if_neg hq, if_neg hq, if_pos rfl]
  · intro c j hc hj
    rw [gI_sj hj, g59 g4 hc, gI_sj hj, g59 g2 hc, g59 g1 hc]
  · rw [gI_sa (by decide), g59 g4 (Or.inl rfl), gI_ss]
theorem playC_l {A : LA} {M : Mem} {d e : Nat} (h : Rel A M) (hd : d < aN A 0) (he : e < aN A 0) : ∀ (c k fuel : Nat) (M1 : Mem), RO M M1 → (∀ j, j < k → gI M1 59 j = gn A (rB M 0) 0 (fsN d e j) (snN d e j) ∧ gI M1 60 j = gn A (rB M 0) 1 (fsN d e j) (snN d e j)) → k + c = 4 → c < fuel → ∃ M2, fX2_playOut_l12 fuel M1 81 (nI d) (nI e) (gR M 28 0) (nI k) = some M2 ∧ RO M M2 ∧ ∀ j, j < 4 → gI M2 59 j = gn A (rB M 0) 0 (fsN d e j) (snN d e j) ∧ gI M2 60 j = gn A (rB M 0) 1 (fsN d e j) (snN d e j) := by
  have h7 := h.1.1
  have k81 : kd 81 = 2 := by decide
  have kL : kd (gR M 28 0) = 4 := h.2.1.1
  intro c
  induction c with
  | zero =>
    intro k fuel M1 f hg hk hf
    obtain ⟨m, rfl⟩ : ∃ m, fuel = m + 1 := ⟨fuel - 1, by omega⟩
    rw [fX2_playOut_l12, ck_t k81, ck_t kL, show (4 : Int32) = nI 4 from rfl, if_neg (by rw [lt_nI (by omega) (by omega)]; omega)]
    exact ⟨M1, rfl, f, fun j hj => hg j (by omega)⟩
  | succ c ih =>
    intro k fuel M1 f hg hk hf
    obtain ⟨m, rfl⟩ : ∃ m, fuel = m + 1 := ⟨fuel - 1, by omega⟩
    have hk4 : k < 4 := by omega
    have hfs : fsN d e k < aN A 0 := by unfold fsN; split <;> assumption
    have hsn : snN d e k < aN A 0 := by unfold snN; split <;> assumption
    obtain ⟨M2, p1, f2, p3, p4, p5⟩ := playC_b (less := if fsN d e k = snN d e k then 3 else 0) (X2 := nI d) (X3 := nI e) h f hk4 hfs hsn (fX2_playOut_l12 m)
    have key : fX2_playOut_l12 (m + 1) M1 81 (nI d) (nI e) (gR M 28 0) (nI k) = fX2_playOut_b57 (fX2_playOut_l12 m) M1 81 (nI d) (nI e) (gR M 28 0) (nI k) (nI (fsN d e k)) (nI (snN d e k)) (if fsN d e k = snN d e k then 3 else 0) := by
      rw [fX2_playOut_l12, ck_t k81, ck_t kL, show (4 : Int32) = nI 4 from rfl, if_pos (by rw [lt_nI (by omega) (by omega)]; omega)]
      have e43 : ∀ x s, x < aN A 0 → s < aN A 0 → fX2_playOut_b43 (fX2_playOut_l12 m) M1 81 (nI d) (nI e) (gR M 28 0) (nI k) (nI x) (nI s) = fX2_playOut_b57 (fX2_playOut_l12 m) M1 81 (nI d) (nI e) (gR M 28 0) (nI k) (nI x) (nI s) (if x = s then 3 else 0) := by
        intro x s qx qs
        unfold fX2_playOut_b43
        rw [ck_t k81, ck_t kL]
        by_cases q : x = s
        · rw [if_pos q, if_pos (by rw [q])]
        · rw [if_neg q, if_neg (by rw [eq_nI (by omega) (by omega)]; exact q)]
      have e29 : ∀ x, x < aN A 0 → fX2_playOut_b29 (fX2_playOut_l12 m) M1 81 (nI d) (nI e) (gR M 28 0) (nI k) (nI x) = fX2_playOut_b57 (fX2_playOut_l12 m) M1 81 (nI d) (nI e) (gR M 28 0) (nI k) (nI x) (nI (snN d e k)) (if x = snN d e k then 3 else 0) := by
        intro x qx
        unfold fX2_playOut_b29
        rw [ck_t k81, ck_t kL]
        unfold snN
        by_cases q : k % 2 = 0
        · rw [if_pos q, if_pos ((half_m k hk4).2.mpr q), e43 x d qx hd]
        · rw [if_neg q, if_neg (fun z => q ((half_m k hk4).2.mp z)), e43 x e qx he]
      have h2 : ((nI k : Int32) < 2) = (k < 2) := lt_nI (b := 2) (by omega) (by omega)
      unfold fsN
      by_cases q : k < 2
      · rw [if_pos q, if_pos (h2.mpr q), e29 d hd]
      · rw [if_neg q, if_neg (fun z => q (h2.mp z)), e29 e he]
    rw [key, p1]
    refine ih (k + 1) m M2 f2 (fun j hj => ?_) (by omega) (by omega)
    by_cases q : j = k
    · subst q
      refine ⟨?_, ?_⟩
      · rw [p4]; rfl
      · rw [p5]; rfl
    · rw [p3 59 j (Or.inl rfl) q, p3 60 j (Or.inr rfl) q]
      exact hg j (by omega)
theorem rest_ok {A : LA} {M M1 : Mem} {d e : Nat} (hg : ∀ j, j < 4 → gI M1 59 j = gn A (rB M 0) 0 (fsN d e j) (snN d e j) ∧ gI M1 60 j = gn A (rB M 0) 1 (fsN d e j) (snN d e j)) {k : Nat} (hk : k < 4) : fX2_isAtRest M1 (nI k) = some (if rst A (rB M 0) d e k = true then 1 else 0) := by
  have key : ∀ k2 k1 : Nat, k2 < 4 → k1 < 4 → nI k ^^^ 2 = nI k2 → nI k ^^^ 1 = nI k1 → fsN d e k2 = fsN e d k → snN d e k2 = snN d e k → fsN d e k1 = fsN d e k → snN d e k1 = snN e d k → fX2_isAtRest M1 (nI k) = some (if rst A (rB M 0) d e k = true then 1 else 0) := by
    intro k2 k1 h2 h1 x2 x1 e1 e2 e3 e4
    unfold fX2_isAtRest
    rw [x2, x1, ldI_nI hk (by decide), ldI_nI h2 (by decide), (hg k hk).1, (hg k2 h2).1, e1, e2]
    unfold rst
    by_cases q1 : gn A (rB M 0) 0 (fsN d e k) (snN d e k) < gn A (rB M 0) 0 (fsN e d k) (snN d e k)
    · rw [if_pos q1, if_neg (by simp [q1])]
    · rw [if_neg q1, ldI_nI hk (by decide), ldI_nI h1 (by decide), (hg k hk).2, (hg k1 h1).2, e3, e4]
      by_cases q2 : gn A (rB M 0) 1 (fsN d e k) (snN d e k) < gn A (rB M 0) 1 (fsN d e k) (snN e d k)
      · rw [if_pos q2, if_neg (by simp [q2])]
      · rw [if_neg q2, if_pos (by simp [q1, q2])]
  rcases (show k = 0 ∨ k = 1 ∨ k = 2 ∨ k = 3 by omega) with q | q | q | q <;> subst q
  · exact key 2 1 (by decide) (by decide) (by decide) (by decide) rfl rfl rfl rfl
  · exact key 3 0 (by decide) (by decide) (by decide) (by decide) rfl rfl rfl rfl
  · exact key 0 3 (by decide) (by decide) (by decide) (by decide) rfl rfl rfl rfl
  · exact key 1 2 (by decide) (by decide) (by decide) (by decide) rfl rfl rfl rfl
theorem gamC_l {M1 : Mem} {w : Int32} {R : Nat → Bool} (hR : ∀ k, k < 4 → fX2_isAtRest M1 (nI k) = some (if R k = true then 1 else 0)) : ∀ (c k fuel : Nat) (n f9 : Int32), k + c = 4 → c < fuel → fX12_game_l54 fuel M1 w n f9 (nI k) = some (.ok (gamL R w c k n f9, M1)) := by
  intro c
  induction c with
  | zero =>
    intro k fuel n f9 hk hf
    obtain ⟨m, rfl⟩ : ∃ m, fuel = m + 1 := ⟨fuel - 1, by omega⟩
    rw [fX12_game_l54, show (4 : Int32) = nI 4 from rfl, if_neg (by rw [lt_nI (by omega) (by omega)]; omega), gamL]
    by_cases hw : w = 0
    · rw [if_pos hw, if_pos hw]
    · rw [if_neg hw, if_neg hw]
  | succ c ih =>
    intro k fuel n f9 hk hf
    obtain ⟨m, rfl⟩ : ∃ m, fuel = m + 1 := ⟨fuel - 1, by omega⟩
    have hk4 : k < 4 := by omega
    have e95 : ∀ n f9, fX12_game_b95 (fX12_game_l54 m) M1 w n f9 (nI k) = fX12_game_l54 m M1 w n f9 (nI (k + 1)) := by
      intro n f9
      unfold fX12_game_b95
      rw [pu_s, nI_1]
    rw [fX12_game_l54, show (4 : Int32) = nI 4 from rfl, if_pos (by rw [lt_nI (by omega) (by omega)]; omega), hR k hk4, b1_s, gamL]
    by_cases hr : R k = true
    · rw [if_pos hr, if_pos hr, if_neg (by decide), pu_s]
      by_cases q3 : f9 = -1
      · rw [if_pos q3, if_pos q3, place_c k hk4, pu_s, e95]
        exact ih (k + 1) m _ _ (by omega) (by omega)
      · rw [if_neg q3, if_neg q3, e95]
        exact ih (k + 1) m _ _ (by omega) (by omega)
    · rw [if_neg hr, if_neg hr, if_pos rfl, e95]
      exact ih (k + 1) m _ _ (by omega) (by omega)
theorem game_q {A : LA} {M : Mem} (h : Rel A M) (x y z : Int32) : qC (fX12_game M x y z) (fun M1 => fX13_game M1 x y z) M := by
  have h7 := h.1.1
  by_cases hx : x < 0 ∨ ¬ x < nI (aN A 0)
  · refine ⟨.error 1, ?_, fun M1 f => ?_⟩
    · show fX12_game M x y z = _
      unfold fX12_game
      rw [needDeed_eq h.2.1, if_pos hx, bE_er]
    · show simM (fX13_game M1 _ _ _) M1 _
      unfold fX13_game
      rw [pu_s, gD_eq (m0L (h.ro f).2.2.1) m00, if_pos hx]
      exact sM_er M0_ro
  · by_cases hy : y < 0 ∨ ¬ y < nI (aN A 0)
    · refine ⟨.error 1, ?_, fun M1 f => ?_⟩
      · show fX12_game M x y z = _
        unfold fX12_game
        rw [needDeed_eq h.2.1, if_neg hx, bE_ok, needDeed_eq h.2.1, if_pos hy, bE_er]
      · show simM (fX13_game M1 _ _ _) M1 _
        unfold fX13_game
        rw [pu_s, gD_eq (m0L (h.ro f).2.2.1) m00, if_neg hx, gD_eq (m0L (h.ro f).2.2.1) m00, if_pos hy]
        exact sM_er M0_ro
    · by_cases hz : z < 0 ∨ (1 : Int32) < z
      · refine ⟨.error 1, ?_, fun M1 f => ?_⟩
        · show fX12_game M x y z = _
          unfold fX12_game
          rw [needDeed_eq h.2.1, if_neg hx, bE_ok, needDeed_eq h.2.1, if_neg hy, bE_ok, needWhat_eq, if_pos hz, bE_er]
        · show simM (fX13_game M1 _ _ _) M1 _
          unfold fX13_game
          rw [pu_s, gD_eq (m0L (h.ro f).2.2.1) m00, if_neg hx, gD_eq (m0L (h.ro f).2.2.1) m00, if_neg hy, gW_eq m00, if_pos hz]
          exact sM_er M0_ro
      · by_cases hxy : x = y
        · refine ⟨.error 2, ?_, fun M1 f => ?_⟩
          · show fX12_game M x y z = _
            unfold fX12_game
            rw [needDeed_eq h.2.1, if_neg hx, bE_ok, needDeed_eq h.2.1, if_neg hy, bE_ok, needWhat_eq, if_neg hz, bE_ok, if_pos hxy]
          · show simM (fX13_game M1 _ _ _) M1 _
            unfold fX13_game
            rw [pu_s, gD_eq (m0L (h.ro f).2.2.1) m00, if_neg hx, gD_eq (m0L (h.ro f).2.2.1) m00, if_neg hy, gW_eq m00, if_neg hz, if_pos hxy]
            unfold fX13_game_b41
            rw [right_eq m00 _ _ (by decide), if_pos rfl, b2_s, if_pos rfl]
            exact sM_er M0_ro
        · obtain ⟨d, hd, ed⟩ := in_of hx (by omega)
          obtain ⟨e, he, ee⟩ := in_of hy (by omega)
          refine ⟨.ok (gamL (rst A (rB M 0) d e) z 4 0 0 (-1)), ?_, fun M1 f => ?_⟩
          · obtain ⟨C1, c1, f1, g1⟩ := playC_l h hd he 4 0 FU M RO.rf (fun j hj => absurd hj (by omega)) (by omega) (by show _ < 100000; omega)
            refine ⟨C1, ?_, f1⟩
            unfold fX12_game
            rw [needDeed_eq h.2.1, if_neg hx, bE_ok, needDeed_eq h.2.1, if_neg hy, bE_ok, needWhat_eq, if_neg hz, bE_ok, if_neg hxy]
            unfold fX2_playOut
            rw [ck_t (show kd 81 = 2 by decide), pu_s, ck_t h.2.1.1, ed, ee, show (0 : Int32) = nI 0 from rfl, c1, b1_s]
            exact gamC_l (fun k hk => rest_ok g1 hk) 4 0 FU _ _ (by omega) (by show _ < 100000; omega)
          · show simM (fX13_game M1 _ _ _) M1 _
            obtain ⟨D2, d2, f2, t2⟩ := gamM_l (w := z) (d := d) (e := e) (h.ro f) hd he 4 0 FU (sI M1 103 0 0) 0 (-1) M0_ro m00 (by omega) (by show _ < 100000; omega)
            unfold fX13_game
            rw [pu_s, gD_eq (m0L (h.ro f).2.2.1) m00, if_neg hx, gD_eq (m0L (h.ro f).2.2.1) m00, if_neg hy, gW_eq m00, if_neg hz, if_neg hxy]
            unfold fX13_game_b41
            rw [right_eq m00 _ _ (by decide), if_neg (by decide), b2_s, if_neg (by decide), ed, ee, show fX13_game_l59 FU (sI M1 103 0 0) (nI d) (nI e) z 0 (-1) 0 = _ from d2, f.rB]
            exact sM_ok f2 t2
