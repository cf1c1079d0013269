/-! QUESTIONS: plans. The reference -/
theorem tries_ok {A : LA} {M : Mem} {b Y Z : Nat} {d : Int32} (hL : LandM A M) (hA : okA A) (hb : b + 62 ≤ 186) (hd : dOk A d) (hR : okR A Y Z (rB M b)) (hY : Y < 10 ^ 8) (hZ : Z < 10 ^ 8) : ∃ M', fX13_triesDeed M (nI b) d = some (if blk A (rB M b) d = true then 0 else 1, M') ∧ frM (b + 31) M M' ∧ (blk A (rB M b) d = false → rB M' (b + 31) = childR A (rB M b) d) := by
  have h7 := hA.1
  obtain ⟨M1, a1, a2, a3⟩ := lays0_ok (b := b) (c := b + 31) (M := M) (by omega) (by omega) (by omega)
  have hL1 := hL.fr a3
  have hR1 : okR A Y Z (rB M1 (b + 31)) := by rw [a2]; exact hR
  obtain ⟨y, hy, ey⟩ := hR.2.2.2.1
  have hh : harvR A (rB M b) = if aN A 1 = 0 then 20 else aF A 4 (y % aN A 1) := by
    unfold harvR
    rw [ey, nI_clamp (by omega)]
  have e3 : gI M1 133 (b + 3) = nI y := by rw [show gI M1 133 (b + 3) = rB M1 b 3 from rB_g (by decide), rB_fr a3 (by omega), ey]
  obtain ⟨M2, c1, c2, c3⟩ := gathers_ok (M := M1) (b := b + 31) (h := harvR A (rB M b)) (by omega)
  have e2 : rB M2 (b + 31) = gathR (rB M b) (harvR A (rB M b)) := by rw [c2, a2]
  have hL2 := hL1.fr c3
  have hR2 : okR A Y Z (rB M2 (b + 31)) := by rw [e2]; exact okR_gath hR _
  have b56 : ∃ M', fX13_triesDeed_b56 M2 (nI b) d = some (1, M') ∧ frM (b + 31) M M' ∧ rB M' (b + 31) = childR A (rB M b) d := by
    obtain ⟨M3, d1, d2, d3⟩ := doX_ok (d := d) hL2 hA (by omega) hd hR2
    have hR3 : okR A Y (Z + 20) (rB M3 (b + 31)) := by rw [d2]; exact okR_doX hR2 hA hd (by omega)
    obtain ⟨M4, f1, f2, f3⟩ := ends_ok (asks := 1) (hL2.fr d3) hA (by omega) hR3
    refine ⟨M4, ?_, ((a3.tr c3).tr d3).tr f3, ?_⟩
    · unfold fX13_triesDeed_b56
      rw [show nI b + 31 = nI (b + 31) from nI_add b 31, d1, b2_s, f1, b1_s]
    · rw [f2, if_neg (by decide), d2, e2]; rfl
  unfold fX13_triesDeed
  rw [show nI b + 31 = nI (b + 31) from nI_add b 31, a1, b1_s, show nI b + 3 = nI (b + 3) from nI_add b 3, ldI_nI (by omega) (by decide), e3, harv_ok hL1 hA (by omega), b1_s, ← hh, c1, b1_s]
  rcases hd with e | ⟨n, hn, e⟩
  · have hB : blk A (rB M b) d = false := by unfold blk; rw [if_pos e]
    obtain ⟨M4, p1, p2, p3⟩ := b56
    refine ⟨M4, ?_, p2, fun _ => p3⟩
    rw [if_pos e, hB, p1, if_neg (by decide)]
  · subst e
    have hB : blk A (rB M b) (nI n) = decide (gathR (rB M b) (harvR A (rB M b)) 0 < aF A 0 n) := by unfold blk; rw [if_neg (nI_neg1 (by omega)), nI_clamp (by omega)]
    rw [if_neg (nI_neg1 (by omega)), ldI_nI (by omega) (by decide), (hL2.2.2.2.2.2.2.2.1 n hn).1, show nI (b + 31) + 0 = nI (b + 31) from nI_add (b + 31) 0, ldI_nI (by omega) (by decide), show gI M2 133 (b + 31) = gathR (rB M b) (harvR A (rB M b)) 0 from by rw [← e2]; exact rB_g (i := 0) (by decide)]
    by_cases hc : gathR (rB M b) (harvR A (rB M b)) 0 < aF A 0 n
    · have hB1 : blk A (rB M b) (nI n) = true := by rw [hB]; exact decide_eq_true hc
      rw [if_pos hc, hB1]
      exact ⟨M2, by rw [if_pos rfl], a3.tr c3, fun q => absurd q (by decide)⟩
    · have hB1 : blk A (rB M b) (nI n) = false := by rw [hB]; exact decide_eq_false hc
      obtain ⟨M4, p1, p2, p3⟩ := b56
      rw [if_neg hc, hB1]
      exact ⟨M4, by rw [p1, if_neg (by decide)], p2, fun _ => p3⟩
/-- what a plan of the reference leaves as it was -/
def frN (b : Nat) (M M' : Mem) : Prop := (∀ a j, (a = 133 → j < b) → a ≠ 135 → a ≠ 136 → (a = 103 → j ≠ 67) → gI M' a j = gI M a j) ∧ M'.2 = M.2
theorem frN.rf {b : Nat} {M : Mem} : frN b M M := ⟨fun _ _ _ _ _ _ => rfl, rfl⟩
theorem frN.tr {b : Nat} {M M1 M2 : Mem} (h : frN b M M1) (h2 : frN b M1 M2) : frN b M M2 := ⟨fun a j x y z u => (h2.1 a j x y z u).trans (h.1 a j x y z u), h2.2.trans h.2⟩
theorem frN.mono {b c : Nat} {M M1 : Mem} (h : frN c M M1) (hb : b ≤ c) : frN b M M1 := ⟨fun a j x y z u => h.1 a j (fun e => by have := x e; omega) y z u, h.2⟩
theorem frM.N {b c : Nat} {M M1 : Mem} (h : frM c M M1) (hb : b ≤ c) : frN b M M1 := ⟨fun a j x y z u => h.1 a j (fun e => Or.inl (by have := x e; omega)) y z, h.2⟩
theorem frN.s67 {b : Nat} {M M1 : Mem} {v : Int32} (h : frN b M M1) : frN b M (sI M1 103 67 v) := ⟨fun a j x y z u => by
  rw [gI_sI, if_neg (fun q => u q.1 q.2)]
  exact h.1 a j x y z u, h.2⟩
theorem frN.rB {b c : Nat} {M M1 : Mem} (h : frN c M M1) (hb : b + 31 ≤ c) : rB M1 b = rB M b := by
  funext j
  unfold Jvm.Pilot.CTurnBrothersLaw_law_r6653_622c5a.rB
  by_cases hj : j < 31
  · rw [if_pos hj, if_pos hj, h.1 _ _ (fun _ => by omega) (by decide) (by decide) (fun q => absurd q (by decide))]
  · rw [if_neg hj, if_neg hj]
theorem frN.LM {A : LA} {b : Nat} {M M1 : Mem} (h : frN b M M1) (hL : LandM A M) : LandM A M1 := hL.mv fun a j x y => h.1 a j (by omega) (by omega) (by omega) (by omega)
theorem frN.RO {b : Nat} {M M1 : Mem} (h : frN b M M1) (hb : 31 ≤ b) : RO M M1 := ⟨fun a j x => h.1 a j (fun e => by
  rcases Nat.lt_or_ge j b with q | q
  · exact q
  · exact absurd (by unfold scr; omega) x) (fun e => x (by unfold scr; omega)) (fun e => x (by unfold scr; omega)) (fun e1 e2 => x (by unfold scr; omega)), by rw [h.2]⟩
theorem frN.t0 {b : Nat} {M M1 : Mem} (h : frN b M M1) : gI M1 103 0 = gI M 103 0 := h.1 _ _ (fun q => absurd q (by decide)) (by decide) (by decide) (fun _ => by decide)
-- values
def hdV (r : Nat → Int32) (me : Nat) : Int32 := r (6 + me) - r (7 - me)
def vvR (r : Nat → Int32) (me : Nat) (x : Int32) : Int32 := hdV r me + (if r 4 = nI me then x else -x)
def valR (A : LA) (me n : Nat) (r : Nat → Int32) : Int32 := vvR r me (gaiN A n r)
theorem turn_n {A : LA} {r : Nat → Int32} {j : Nat} (h4 : j ≠ 4) (h5 : j ≠ 5) (h9 : j ≠ 9) : turnR A r j = r j := by
  unfold turnR
  split
  · rfl
  · split
    · rw [upd_a, if_neg h9]
    · unfold overR
      rw [upd_a, if_neg h5, upd_a, if_neg h4]
theorem child_6 {A : LA} {r : Nat → Int32} {Y Z : Nat} {d : Int32} (hA : okA A) (hR : okR A Y Z r) (hd : dOk A d) (hB : blk A r d = false) {j : Nat} (hj : j < 2) : childR A r d (6 + j) = if j = ruler r then r (6 + j) + glo A d else r (6 + j) := by
  have h7 := hA.1
  have hr := (ruler_lt hR).1
  have e1 : childR A r d (6 + j) = (doX A (gathR r (harvR A r)) d).2 (6 + j) := by
    unfold childR liveR
    rw [turn_n (by omega) (by omega) (by omega), age_n (by rw [ruler_do (by rw [ruler_gath]; exact hr), ruler_gath]; exact hr) (by omega) (by omega) (by omega) (by omega)]
  have eg : ∀ i, 3 ≤ i → gathR r (harvR A r) i = r i := fun i hi => gathR_n (by omega) (by omega)
  rw [e1]
  unfold glo
  rcases hd with e | ⟨n, hn, e⟩
  · subst e
    rw [doX_m1, if_pos rfl, Int32.add_zero, show (false, gathR r (harvR A r)).2 (6 + j) = r (6 + j) from eg _ (by omega), ite_self]
  · subst e
    have hc : ¬ gathR r (harvR A r) 0 < aF A 0 n := by
      unfold blk at hB
      rw [if_neg (nI_neg1 (by omega)), nI_clamp (by omega)] at hB
      exact of_decide_eq_false hB
    rw [doX_n (by omega), if_neg (nI_neg1 (by omega)), nI_clamp (by omega)]
    unfold doR
    rw [if_neg hc, ruler_gath]
    show upd _ (6 + ruler r) _ (6 + j) = _
    rw [upd_a]
    by_cases q : j = ruler r
    · rw [if_pos (by omega), if_pos q, ← q, eg _ (by omega)]
    · rw [if_neg (by omega), if_neg q, upd_a, if_neg (by omega), upd_a, if_neg (by omega), upd_a, if_neg (by omega), eg _ (by omega)]
theorem r4_iff {A : LA} {r : Nat → Int32} {Y Z me : Nat} (hR : okR A Y Z r) (hme : me < 2) : r 4 = nI me ↔ ruler r = me := by
  obtain ⟨h1, h2⟩ := ruler_lt hR
  rw [h2, eq_nI (by omega) (by omega)]
theorem vv_child {A : LA} {r : Nat → Int32} {Y Z me n : Nat} {d : Int32} (hA : okA A) (hR : okR A Y Z r) (hZ : Z < 10 ^ 9) (hd : dOk A d) (hB : blk A r d = false) (hme : me < 2) : valR A me n (childR A r d) = vvR r me (gaG A n r d) := by
  have hC := okR_child hR hA hd hZ
  obtain ⟨h1, h2⟩ := ruler_lt hR
  obtain ⟨g1, g2⟩ := ruler_lt hC
  have hs : childR A r d 4 = r 4 ↔ ruler (childR A r d) = ruler r := by rw [h2]; exact r4_iff hC h1
  have ea := child_6 hA hR hd hB (j := me) hme
  have eb := child_6 hA hR hd hB (j := 1 - me) (by omega)
  rw [show 6 + (1 - me) = 7 - me by omega] at eb
  unfold valR vvR hdV gaG
  rw [ea, eb]
  generalize gaiN A n (childR A r d) = x
  generalize glo A d = g
  generalize r (6 + me) = a
  generalize r (7 - me) = c
  by_cases q1 : ruler r = me
  · rw [if_pos ((r4_iff hR hme).mpr q1), if_pos q1.symm, if_neg (by omega)]
    by_cases q2 : ruler (childR A r d) = me
    · rw [if_pos ((r4_iff hC hme).mpr q2), if_pos (hs.mpr (by omega))]
      simp only [Int32.sub_eq_add_neg, neg_add9, Int32.neg_neg]
      ac_rfl
    · rw [if_neg (fun z => q2 ((r4_iff hC hme).mp z)), if_neg (fun z => q2 ((hs.mp z).trans q1))]
      simp only [Int32.sub_eq_add_neg, neg_add9, Int32.neg_neg]
      ac_rfl
  · rw [if_neg (fun z => q1 ((r4_iff hR hme).mp z)), if_neg (show ¬ me = ruler r from fun z => q1 z.symm), if_pos (by omega)]
    by_cases q2 : ruler (childR A r d) = me
    · rw [if_pos ((r4_iff hC hme).mpr q2), if_neg (fun z => by have := hs.mp z; omega)]
      simp only [Int32.sub_eq_add_neg, neg_add9, Int32.neg_neg]
      ac_rfl
    · rw [if_neg (fun z => q2 ((r4_iff hC hme).mp z)), if_pos (hs.mpr (by omega))]
      simp only [Int32.sub_eq_add_neg, neg_add9, Int32.neg_neg]
      ac_rfl
theorem hdV_B {A : LA} {r : Nat → Int32} {Y Z me : Nat} (hR : okR A Y Z r) (hme : me < 2) (hZ : Z < 10 ^ 8) : inZ (hdV r me) (2 * Z) := by
  have h6 := hR.2.2.2.2.2.2.1
  have h7 := hR.2.2.2.2.2.2.2.1
  unfold hdV
  rcases (show me = 0 ∨ me = 1 by omega) with q | q <;> subst q
  · have := inZ_sub h6 h7 (by omega)
    rw [show Z + Z = 2 * Z by omega] at this
    exact this
  · have := inZ_sub h7 h6 (by omega)
    rw [show Z + Z = 2 * Z by omega] at this
    exact this
theorem toZ_add {x y : Int32} {m n : Nat} (hx : inZ x m) (hy : inZ y n) (h : m + n < 2 ^ 31) : (x + y).toInt = x.toInt + y.toInt := by
  unfold inZ at hx hy
  rw [Int32.toInt_add, Int.bmod_eq_of_le (by omega) (by omega)]
theorem vv_lt {A : LA} {r : Nat → Int32} {Y Z me : Nat} {x y : Int32} (hR : okR A Y Z r) (hme : me < 2) (hZ : Z < 10 ^ 8) (hx : inZ x 1000) (hy : inZ y 1000) : (r 4 = nI me → (vvR r me x < vvR r me y ↔ x < y)) ∧ (¬ r 4 = nI me → (vvR r me y < vvR r me x ↔ x < y)) := by
  have hh := hdV_B hR hme hZ
  have hx' := inZ_neg hx (by decide)
  have hy' := inZ_neg hy (by decide)
  unfold vvR
  refine ⟨fun q => ?_, fun q => ?_⟩
  · rw [if_pos q, if_pos q, Int32.lt_iff_toInt_lt, Int32.lt_iff_toInt_lt, toZ_add hh hx (by omega), toZ_add hh hy (by omega)]
    omega
  · rw [if_neg q, if_neg q, Int32.lt_iff_toInt_lt, Int32.lt_iff_toInt_lt, toZ_add hh hx'.1 (by omega), toZ_add hh hy'.1 (by omega), hx'.2, hy'.2]
    omega
-- the four plans of the reference are one
def gp103 (a9 : Mem → Int32 → Int32 → Int32 → Int32 → Int32 → Option (Int32 × Mem)) (M : Mem) (x1 x2 x3 x4 x5 : Int32) : Option (Int32 × Mem) := pu (x5 + 1) fun v => a9 M x1 x2 x3 x4 v
def gp33 (inn : Mem → Int32 → Int32 → Option (Int32 × Mem)) (a9 : Mem → Int32 → Int32 → Int32 → Int32 → Int32 → Option (Int32 × Mem)) (M : Mem) (x1 x2 x3 x4 x5 s0 : Int32) : Option (Int32 × Mem) :=
  b2 (fX13_triesDeed M x1 s0) fun vq4 Mq5 =>
  if vq4 = 0 then gp103 a9 Mq5 x1 x2 x3 x4 x5
  else
    b2 (inn Mq5 (x1 + 31) x2) fun vq6 Mq7 =>
    if x4 = (-2) then gp103 a9 Mq7 x1 x2 vq6 s0 x5
    else
      ldI Mq7 133 186 (x1 + 4) fun vq9 =>
      if vq9 = x2 then
        if x3 < vq6 then gp103 a9 Mq7 x1 x2 vq6 s0 x5 else gp103 a9 Mq7 x1 x2 x3 x4 x5
      else
        if vq6 < x3 then gp103 a9 Mq7 x1 x2 vq6 s0 x5 else gp103 a9 Mq7 x1 x2 x3 x4 x5
def gpl (inn : Mem → Int32 → Int32 → Option (Int32 × Mem)) : Nat → Mem → Int32 → Int32 → Int32 → Int32 → Int32 → Option (Int32 × Mem)
  | 0, _, _, _, _, _, _ => none
  | n + 1, M, x1, x2, x3, x4, x5 =>
    pu (gI M 103 1) fun vq1 =>
    if vq1 < x5 then
      pu (sI M 103 67 (x4)) fun Mq2 =>
      some (x3, Mq2)
    else
      pu (gI M 103 1) fun vq3 =>
      if x5 = vq3 then gp33 inn (gpl inn n) M x1 x2 x3 x4 x5 (-1)
      else gp33 inn (gpl inn n) M x1 x2 x3 x4 x5 x5
def inn1 (M : Mem) (b me : Int32) : Option (Int32 × Mem) := b1 (fX13_ahead0 M b me) fun v => some (v, M)
theorem b2_inn {β : Type} {o : Option Int32} {M : Mem} {K : Int32 → Mem → Option β} : b2 (b1 o fun v => some (v, M)) K = b1 o fun v => K v M := by cases o <;> rfl
theorem plan1_gp : ∀ n, fX13_planOne_l9 n = gpl inn1 n := by
  intro n
  induction n with
  | zero => funext M x1 x2 x3 x4 x5; rfl
  | succ n ih =>
    have e : ∀ a9 M x1 x2 x3 x4 x5 s0, fX13_planOne_b33 a9 M x1 x2 x3 x4 x5 s0 = gp33 inn1 a9 M x1 x2 x3 x4 x5 s0 := by
      intro a9 M x1 x2 x3 x4 x5 s0
      unfold fX13_planOne_b33 gp33 inn1
      simp only [b2_inn]
      rfl
    funext M x1 x2 x3 x4 x5
    rw [fX13_planOne_l9, gpl, ih]
    simp only [e]
theorem plan2_gp : ∀ n, fX13_planTwo_l9 n = gpl fX13_planOne n := by
  intro n
  induction n with
  | zero => funext M x1 x2 x3 x4 x5; rfl
  | succ n ih =>
    have e : ∀ a9 M x1 x2 x3 x4 x5 s0, fX13_planTwo_b33 a9 M x1 x2 x3 x4 x5 s0 = gp33 fX13_planOne a9 M x1 x2 x3 x4 x5 s0 := fun _ _ _ _ _ _ _ _ => rfl
    funext M x1 x2 x3 x4 x5
    rw [fX13_planTwo_l9, gpl, ih]
    simp only [e]
theorem plan3_gp : ∀ n, fX13_planThree_l9 n = gpl fX13_planTwo n := by
  intro n
  induction n with
  | zero => funext M x1 x2 x3 x4 x5; rfl
  | succ n ih =>
    have e : ∀ a9 M x1 x2 x3 x4 x5 s0, fX13_planThree_b33 a9 M x1 x2 x3 x4 x5 s0 = gp33 fX13_planTwo a9 M x1 x2 x3 x4 x5 s0 := fun _ _ _ _ _ _ _ _ => rfl
    funext M x1 x2 x3 x4 x5
    rw [fX13_planThree_l9, gpl, ih]
    simp only [e]
theorem plan4_gp : ∀ n, fX13_planFour_l9 n = gpl fX13_planThree n := by
  intro n
  induction n with
  | zero => funext M x1 x2 x3 x4 x5; rfl
  | succ n ih =>
    have e : ∀ a9 M x1 x2 x3 x4 x5 s0, fX13_planFour_b33 a9 M x1 x2 x3 x4 x5 s0 = gp33 fX13_planThree a9 M x1 x2 x3 x4 x5 s0 := fun _ _ _ _ _ _ _ _ => rfl
    funext M x1 x2 x3 x4 x5
    rw [fX13_planFour_l9, gpl, ih]
    simp only [e]
def oV (f : Bool) (x y : Int32) : Int32 := if f = true then x else y
theorem gpM_l {A : LA} {n me b : Nat} {r : Nat → Int32} {Y Z : Nat} {inn : Mem → Int32 → Int32 → Option (Int32 × Mem)} (hA : okA A) (hme : me < 2) (hb : b + 62 ≤ 186) (hn : n ≤ 3) (hR : okR A Y Z r) (hY : Y < 10 ^ 6) (hZ : Z < 10 ^ 6)
    (H : ∀ d, dOk A d → ∀ M1, LandM A M1 → rB M1 (b + 31) = childR A r d → ∃ M2, inn M1 (nI (b + 31)) (nI me) = some (valR A me n (childR A r d), M2) ∧ frN (b + 31) M1 M2) :
    ∀ (c i fuel : Nat) (M1 : Mem) (bb w : Int32) (f : Bool), LandM A M1 → rB M1 b = r → inZ bb 1000 → (f = true → dOk A w) → i + c = aN A 0 + 1 → c < fuel → ∃ M2, gpl inn fuel M1 (nI b) (nI me) (oV f (vvR r me bb) 0) (oV f w (-2)) (nI i) = some (oV (plF (blk A r) (gaG A n r) (optD A) c i bb w f).2.2 (vvR r me (plF (blk A r) (gaG A n r) (optD A) c i bb w f).1) 0, M2) ∧ frN (b + 31) M1 M2 ∧ gI M2 103 67 = oV (plF (blk A r) (gaG A n r) (optD A) c i bb w f).2.2 (plF (blk A r) (gaG A n r) (optD A) c i bb w f).2.1 (-2) := by
  have h7 := hA.1
  intro c
  induction c with
  | zero =>
    intro i fuel M1 bb w f hL er hbb hw hi hf
    obtain ⟨m, rfl⟩ : ∃ m, fuel = m + 1 := ⟨fuel - 1, by omega⟩
    rw [gpl, pu_s, hL.1, if_pos (by rw [lt_nI (by omega) (by omega)]; omega), pu_s]
    exact ⟨_, rfl, frN.rf.s67, gI_ss⟩
  | succ c ih =>
    intro i fuel M1 bb w f hL er hbb hw hi hf
    obtain ⟨m, rfl⟩ : ∃ m, fuel = m + 1 := ⟨fuel - 1, by omega⟩
    have hd := optD_ok (A := A) i
    have b103 : ∀ (N : Mem) (bb w : Int32) (f : Bool), LandM A N → rB N b = r → inZ bb 1000 → (f = true → dOk A w) → frN (b + 31) M1 N → ∃ M2, gp103 (gpl inn m) N (nI b) (nI me) (oV f (vvR r me bb) 0) (oV f w (-2)) (nI i) = some (oV (plF (blk A r) (gaG A n r) (optD A) c (i + 1) bb w f).2.2 (vvR r me (plF (blk A r) (gaG A n r) (optD A) c (i + 1) bb w f).1) 0, M2) ∧ frN (b + 31) M1 M2 ∧ gI M2 103 67 = oV (plF (blk A r) (gaG A n r) (optD A) c (i + 1) bb w f).2.2 (plF (blk A r) (gaG A n r) (optD A) c (i + 1) bb w f).2.1 (-2) := by
      intro N bb w f hN eN hbb hw fN
      obtain ⟨M2, p1, p2, p3⟩ := ih (i + 1) m N bb w f hN eN hbb hw (by omega) (by omega)
      refine ⟨M2, ?_, fN.tr p2, p3⟩
      unfold gp103
      rw [pu_s, nI_1]
      exact p1
    have b33 : ∃ M2, gp33 inn (gpl inn m) M1 (nI b) (nI me) (oV f (vvR r me bb) 0) (oV f w (-2)) (nI i) (optD A i) = some (oV (plF (blk A r) (gaG A n r) (optD A) (c + 1) i bb w f).2.2 (vvR r me (plF (blk A r) (gaG A n r) (optD A) (c + 1) i bb w f).1) 0, M2) ∧ frN (b + 31) M1 M2 ∧ gI M2 103 67 = oV (plF (blk A r) (gaG A n r) (optD A) (c + 1) i bb w f).2.2 (plF (blk A r) (gaG A n r) (optD A) (c + 1) i bb w f).2.1 (-2) := by
      obtain ⟨N1, t1, t2, t3⟩ := tries_ok (b := b) (d := optD A i) hL hA hb hd (by rw [er]; exact hR) (by omega) (by omega)
      rw [er] at t1 t3
      have n1 : frN (b + 31) M1 N1 := t2.N (Nat.le_refl _)
      have eN1 : rB N1 b = r := by rw [n1.rB (Nat.le_refl _), er]
      by_cases hB : blk A r (optD A i) = true
      · rw [if_pos hB] at t1
        unfold gp33
        rw [t1, b2_s, if_pos (show (0 : Int32) = 0 from rfl), plF, if_pos hB]
        exact b103 N1 bb w f (n1.LM hL) eN1 hbb hw n1
      · have hB0 : blk A r (optD A i) = false := by cases q : blk A r (optD A i) with
          | true => exact absurd q hB
          | false => rfl
        rw [if_neg hB] at t1
        unfold gp33
        rw [t1, b2_s, if_neg (show ¬ (1 : Int32) = 0 by decide), plF, if_neg hB]
        obtain ⟨N2, u1, u2⟩ := H (optD A i) hd N1 (n1.LM hL) (t3 hB0)
        have n2 := n1.tr u2
        have eN2 : rB N2 b = r := by rw [n2.rB (Nat.le_refl _), er]
        have hG : inZ (gaG A n r (optD A i)) 1000 := inZ_mono (gaG_B hA (by omega) r hd) (by omega)
        rw [show nI b + 31 = nI (b + 31) from nI_add b 31, u1, b2_s, vv_child hA hR (by omega) hd hB0 hme]
        cases f with
        | false =>
          rw [if_pos (show oV false w (-2) = -2 from rfl), if_pos (Or.inl rfl)]
          exact b103 N2 _ _ true (n2.LM hL) eN2 hG (fun _ => hd) n2
        | true =>
          have hw2 : ¬ w = -2 := by
            rcases hw rfl with e | ⟨j, hj, e⟩
            · rw [e]; decide
            · rw [e]; exact nI_neg2 (by omega)
          rw [if_neg (show ¬ oV true w (-2) = -2 from hw2), show nI b + 4 = nI (b + 4) from nI_add b 4, ldI_nI (by omega) (by decide), show gI N2 133 (b + 4) = r 4 from by rw [← eN2]; exact rB_g (by decide)]
          obtain ⟨l1, l2⟩ := vv_lt hR hme (by omega) hbb hG
          have keep : ¬ bb < gaG A n r (optD A i) → ¬ (true = false ∨ bb < gaG A n r (optD A i)) := fun q => by
            rintro (z | z)
            · exact absurd z (by decide)
            · exact q z
          by_cases q4 : r 4 = nI me
          · rw [if_pos q4]
            by_cases q : bb < gaG A n r (optD A i)
            · rw [if_pos (show oV true (vvR r me bb) 0 < vvR r me (gaG A n r (optD A i)) from (l1 q4).mpr q), if_pos (Or.inr q)]
              exact b103 N2 _ _ true (n2.LM hL) eN2 hG (fun _ => hd) n2
            · rw [if_neg (show ¬ oV true (vvR r me bb) 0 < vvR r me (gaG A n r (optD A i)) from fun z => q ((l1 q4).mp z)), if_neg (keep q)]
              exact b103 N2 _ _ true (n2.LM hL) eN2 hbb hw n2
          · rw [if_neg q4]
            by_cases q : bb < gaG A n r (optD A i)
            · rw [if_pos (show vvR r me (gaG A n r (optD A i)) < oV true (vvR r me bb) 0 from (l2 q4).mpr q), if_pos (Or.inr q)]
              exact b103 N2 _ _ true (n2.LM hL) eN2 hG (fun _ => hd) n2
            · rw [if_neg (show ¬ vvR r me (gaG A n r (optD A i)) < oV true (vvR r me bb) 0 from fun z => q ((l2 q4).mp z)), if_neg (keep q)]
              exact b103 N2 _ _ true (n2.LM hL) eN2 hbb hw n2
    rw [gpl, pu_s, hL.1, if_neg (by rw [lt_nI (by omega) (by omega)]; omega), pu_s]
    by_cases hi2 : i = aN A 0
    · have : optD A i = -1 := by unfold optD; rw [if_neg (by omega)]
      rw [this] at b33
      rw [if_pos (by rw [hi2])]
      exact b33
    · have : optD A i = nI i := by unfold optD; rw [if_pos (by omega)]
      rw [this] at b33
      rw [if_neg (by rw [eq_nI (by omega) (by omega)]; exact hi2)]
      exact b33
theorem gpM_ok {A : LA} {n me b : Nat} {r : Nat → Int32} {Y Z : Nat} {inn : Mem → Int32 → Int32 → Option (Int32 × Mem)} (hA : okA A) (hme : me < 2) (hb : b + 62 ≤ 186) (hn : n ≤ 3) (hR : okR A Y Z r) (hY : Y < 10 ^ 6) (hZ : Z < 10 ^ 6)
    (H : ∀ d, dOk A d → ∀ M1, LandM A M1 → rB M1 (b + 31) = childR A r d → ∃ M2, inn M1 (nI (b + 31)) (nI me) = some (valR A me n (childR A r d), M2) ∧ frN (b + 31) M1 M2) {M1 : Mem} (hL : LandM A M1) (er : rB M1 b = r) :
    ∃ M2, gpl inn FU M1 (nI b) (nI me) 0 (-2) 0 = some (valR A me (n + 1) r, M2) ∧ frN (b + 31) M1 M2 ∧ gI M2 103 67 = (pl3 A n r).2.1 := by
  have h7 := hA.1
  obtain ⟨M2, p1, p2, p3⟩ := gpM_l hA hme hb hn hR hY hZ H (aN A 0 + 1) 0 FU M1 0 (-1) false hL er (inZ_0 _) (fun q => absurd q (by decide)) (by omega) (by show _ < 100000; omega)
  have hf : (plF (blk A r) (gaG A n r) (optD A) (aN A 0 + 1) 0 0 (-1) false).2.2 = true := plF_f (aN A 0) 0 0 (-1) false (by
    have : optD A (0 + aN A 0) = -1 := by unfold optD; rw [if_neg (by omega)]
    rw [this]
    unfold blk
    rw [if_pos rfl])
  rw [hf] at p1 p3
  exact ⟨M2, p1, p2, p3⟩
theorem inn1_ok {A : LA} {me b : Nat} {r : Nat → Int32} (hme : me < 2) (hb : b + 31 ≤ 186) {M1 : Mem} (er : rB M1 b = r) : inn1 M1 (nI b) (nI me) = some (valR A me 0 r, M1) := by
  unfold inn1 fX13_ahead0
  rw [show nI b + 6 + nI me = nI (b + (6 + me)) from by rw [show (6 : Int32) = nI 6 from rfl, nI_add, nI_add, Nat.add_assoc], show nI b + 6 + 1 - nI me = nI (b + (7 - me)) from by rw [show (6 : Int32) = nI 6 from rfl, nI_add, nI_1, pk_sub (by omega), show b + 6 + 1 - me = b + (7 - me) by omega]]
  rw [ldI_nI (by omega) (by decide), ldI_nI (by omega) (by decide), rB_g (by omega), rB_g (by omega), er, b1_s]
  unfold valR vvR hdV gaiN
  rw [show -(0 : Int32) = 0 by decide, ite_self, Int32.add_zero]
theorem ahead_ok {me b : Nat} {r : Nat → Int32} (hme : me < 2) (hb : b + 31 ≤ 186) {M1 : Mem} (er : rB M1 b = r) : fX13_ahead0 M1 (nI b) (nI me) = some (hdV r me) := by
  unfold fX13_ahead0
  rw [show nI b + 6 + nI me = nI (b + (6 + me)) from by rw [show (6 : Int32) = nI 6 from rfl, nI_add, nI_add, Nat.add_assoc], show nI b + 6 + 1 - nI me = nI (b + (7 - me)) from by rw [show (6 : Int32) = nI 6 from rfl, nI_add, nI_1, pk_sub (by omega), show b + 6 + 1 - me = b + (7 - me) by omega]]
  rw [ldI_nI (by omega) (by decide), ldI_nI (by omega) (by decide), rB_g (by omega), rB_g (by omega), er]
  rfl
def plnM (n : Nat) : Mem → Int32 → Int32 → Option (Int32 × Mem) := if n = 0 then fX13_planOne else if n = 1 then fX13_planTwo else if n = 2 then fX13_planThree else fX13_planFour
theorem plnM_0 : plnM 0 = fX13_planOne := by
  unfold plnM
  rw [if_pos rfl]
theorem plnM_1 : plnM 1 = fX13_planTwo := by
  unfold plnM
  rw [if_neg (by decide), if_pos rfl]
theorem plnM_2 : plnM 2 = fX13_planThree := by
  unfold plnM
  rw [if_neg (by decide), if_neg (by decide), if_pos rfl]
theorem plnM_3 : plnM 3 = fX13_planFour := by
  unfold plnM
  rw [if_neg (by decide), if_neg (by decide), if_neg (by decide)]
theorem plnM_ok {A : LA} {me : Nat} (hA : okA A) (hme : me < 2) : ∀ (n b : Nat) (M1 : Mem) (r : Nat → Int32) (Y Z : Nat), n ≤ 3 → b + 31 * (n + 1) + 31 ≤ 186 → LandM A M1 → rB M1 b = r → okR A Y Z r → Y + n < 10 ^ 5 → Z + 20 * n < 10 ^ 5 → ∃ M2, plnM n M1 (nI b) (nI me) = some (valR A me (n + 1) r, M2) ∧ frN (b + 31) M1 M2 ∧ gI M2 103 67 = (pl3 A n r).2.1 := by
  intro n
  induction n with
  | zero =>
    intro b M1 r Y Z hn hb hL er hR hY hZ
    obtain ⟨M2, p1, p2⟩ := gpM_ok (inn := inn1) (n := 0) hA hme (by omega) (by omega) hR (by omega) (by omega) (fun d hd N hN eN => ⟨N, inn1_ok hme (by omega) eN, frN.rf⟩) hL er
    refine ⟨M2, ?_, p2⟩
    rw [plnM_0]
    unfold fX13_planOne
    rw [plan1_gp]
    exact p1
  | succ n ih =>
    intro b M1 r Y Z hn hb hL er hR hY hZ
    have H : ∀ d, dOk A d → ∀ M1, LandM A M1 → rB M1 (b + 31) = childR A r d → ∃ M2, plnM n M1 (nI (b + 31)) (nI me) = some (valR A me (n + 1) (childR A r d), M2) ∧ frN (b + 31) M1 M2 := by
      intro d hd N hN eN
      obtain ⟨N2, q1, q2, -⟩ := ih (b + 31) N (childR A r d) (Y + 1) (Z + 20) (by omega) (by omega) hN eN (okR_child hR hA hd (by omega)) (by omega) (by omega)
      exact ⟨N2, q1, q2.mono (by omega)⟩
    obtain ⟨M2, p1, p2⟩ := gpM_ok (inn := plnM n) (n := n + 1) hA hme (by omega) (by omega) hR (by omega) (by omega) H hL er
    refine ⟨M2, ?_, p2⟩
    rcases (show n = 0 ∨ n = 1 ∨ n = 2 by omega) with q | q | q <;> subst q
    · rw [plnM_0] at p1
      rw [show plnM (0 + 1) = fX13_planTwo from plnM_1]
      unfold fX13_planTwo
      rw [plan2_gp]
      exact p1
    · rw [plnM_1] at p1
      rw [show plnM (1 + 1) = fX13_planThree from plnM_2]
      unfold fX13_planThree
      rw [plan3_gp]
      exact p1
    · rw [plnM_2] at p1
      rw [show plnM (2 + 1) = fX13_planFour from plnM_3]
      unfold fX13_planFour
      rw [plan4_gp]
      exact p1
theorem plan_q {A : LA} {M : Mem} (h : Rel A M) (x y : Int32) : qC (fX12_plan M x y) (fun M1 => fX13_plan M1 x y) M := by
  by_cases hy : y < 0 ∨ (1 : Int32) < y
  · refine ⟨.error 1, ?_, fun M1 f => ?_⟩
    · show fX12_plan M x y = _
      unfold fX12_plan
      rw [needWhat_eq, if_pos hy, bE_er]
    · show simM (fX13_plan M1 _ _) M1 _
      unfold fX13_plan
      rw [pu_s, gW_eq m00, if_pos hy]
      exact sM_er M0_ro
  · by_cases hx : x < 1 ∨ (4 : Int32) < x
    · refine ⟨.error 2, ?_, fun M1 f => ?_⟩
      · show fX12_plan M x y = _
        unfold fX12_plan
        rw [needWhat_eq, if_neg hy, bE_ok, needWithin_eq, if_pos hx, bE_er]
      · show simM (fX13_plan M1 _ _) M1 _
        unfold fX13_plan
        rw [pu_s, gW_eq m00, if_neg hy, gT_eq m00 (by decide), if_pos hx]
        exact sM_er M0_ro
    · obtain ⟨n1, hn1, hn4, en⟩ := lt1_of (lo := 1) (n := 4) hx (by decide) (by decide)
      obtain ⟨n, rfl⟩ : ∃ n, n1 = n + 1 := ⟨n1 - 1, by omega⟩
      have hR := h.okR
      obtain ⟨me1, me2⟩ := ruler_lt hR
      have hv : valR A (ruler (rB M 0)) (n + 1) (rB M 0) - hdV (rB M 0) (ruler (rB M 0)) = gaiN A (n + 1) (rB M 0) := by
        unfold valR vvR
        rw [if_pos me2, Int32.sub_eq_add_neg, Int32.add_comm (hdV _ _), Int32.add_assoc, ← Int32.sub_eq_add_neg, Int32.sub_self, Int32.add_zero]
      refine ⟨.ok (if y = 0 then gaiN A (n + 1) (rB M 0) else (pl3 A n (rB M 0)).2.1), ?_, fun M1 f => ?_⟩
      · obtain ⟨C2, c1, c2, c3⟩ := planned_ok (n := n) h RO.rf (by omega)
        refine ⟨C2, ?_, c2⟩
        unfold fX12_plan
        rw [needWhat_eq, if_neg hy, bE_ok, needWithin_eq, if_neg hx, bE_ok, en, c1, b2_s]
        by_cases h0 : y = 0
        · rw [if_pos h0, if_pos h0]
        · rw [if_neg h0, if_neg h0, pu_s, c3]
      · show simM (fX13_plan M1 _ _) M1 _
        have h1 := h.ro f
        have hL1 : LandM A (sI M1 103 0 0) := m0L h1.2.2.1
        have eB : rB (sI M1 103 0 0) 0 = rB M 0 := by rw [m0B, f.rB]
        obtain ⟨D2, d1, d2, d3⟩ := plnM_ok (A := A) h.1 me1 n 0 (sI M1 103 0 0) (rB M 0) 999 19980 (by omega) (by omega) hL1 eB hR (by omega) (by omega)
        have e4 : gI (sI M1 103 0 0) 133 4 = nI (ruler (rB M 0)) := by rw [← me2, ← eB]; exact gB0 (by decide)
        have eD : rB D2 0 = rB M 0 := by rw [d2.rB (by decide), eB]
        have b85 : fX13_plan_b85 D2 y (nI (ruler (rB M 0))) (valR A (ruler (rB M 0)) (n + 1) (rB M 0)) = some (if y = 0 then gaiN A (n + 1) (rB M 0) else (pl3 A n (rB M 0)).2.1, D2) := by
          unfold fX13_plan_b85
          by_cases h0 : y = 0
          · rw [if_pos h0, if_pos h0, show fX13_ahead0 D2 0 (nI (ruler (rB M 0))) = _ from ahead_ok (b := 0) me1 (by decide) eD, b1_s, hv]
          · rw [if_neg h0, if_neg h0, pu_s, d3]
        have fin : simM (some (if y = 0 then gaiN A (n + 1) (rB M 0) else (pl3 A n (rB M 0)).2.1, D2)) M1 (.ok (if y = 0 then gaiN A (n + 1) (rB M 0) else (pl3 A n (rB M 0)).2.1)) := sM_ok (M0_ro.tr (d2.RO (by decide))) (by rw [d2.t0]; exact m00)
        unfold fX13_plan
        rw [pu_s, gW_eq m00, if_neg hy, gT_eq m00 (by decide), if_neg hx, show (4 : Int32) = nI 4 from rfl, ldI_nI (by decide) (by decide), e4, en]
        rcases (show n = 0 ∨ n = 1 ∨ n = 2 ∨ n = 3 by omega) with q | q | q | q <;> subst q
        · rw [plnM_0] at d1
          rw [if_pos (show nI (0 + 1) = 1 by decide), show fX13_planOne (sI M1 103 0 0) 0 (nI (ruler (rB M 0))) = _ from d1, b2_s, b85]
          exact fin
        · rw [plnM_1] at d1
          rw [if_neg (show ¬ nI (1 + 1) = 1 by decide), if_pos (show nI (1 + 1) = 2 by decide), show fX13_planTwo (sI M1 103 0 0) 0 (nI (ruler (rB M 0))) = _ from d1, b2_s, b85]
          exact fin
        · rw [plnM_2] at d1
          rw [if_neg (show ¬ nI (2 + 1) = 1 by decide), if_neg (show ¬ nI (2 + 1) = 2 by decide), if_pos (show nI (2 + 1) = 3 by decide), show fX13_planThree (sI M1 103 0 0) 0 (nI (ruler (rB M 0))) = _ from d1, b2_s, b85]
          exact fin
        · rw [plnM_3] at d1
          rw [if_neg (show ¬ nI (3 + 1) = 1 by decide), if_neg (show ¬ nI (3 + 1) = 2 by decide), if_neg (show ¬ nI (3 + 1) = 3 by decide), show fX13_planFour (sI M1 103 0 0) 0 (nI (ruler (rB M 0))) = _ from d1, b2_s, b85]
          exact fin
