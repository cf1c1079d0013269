/-! TEXTS: rules and whole lines as the reference reads them -/
theorem tW_len {c : Nat → Nat} {L q : Nat} (h : tW c L q < 22) : tN c L q - tP c L q = wl (tW c L q) := by
  by_cases hk : tK c L q = 1
  · have hW : tW c L q = wix c (tP c L q) (tN c L q - tP c L q) 23 := by unfold tW; rw [if_pos hk]
    obtain ⟨m1, m2⟩ := wix_m (c := c) (p := tP c L q) (n := tN c L q - tP c L q) 23 (Nat.le_refl _)
    rw [← hW] at m1
    have := m1 h
    unfold mtc at this
    simp at this
    exact this.1
  · have : tW c L q = 22 := by unfold tW; rw [if_neg hk]
    omega
theorem rulM0 {c : Nat → Nat} {L : Nat} {M0 : Mem} {S : LNS} {q : Nat} {M : Mem} (hS : invS S) (hw : tW c L q = 9) (h : pM c L M0 S q M) : ouM c L M0 (pu (gI M 103 38) fun v => if v = (-1) then fX13_line_b180 M else b1 (fX13_wrong M 5) fun N => fX13_line_b180 N) (onceR c L 5 (rulR c L 0 vS) S q) := by
  obtain ⟨hA, hR, hm, -, -, -, m5, m6⟩ := hS
  obtain ⟨⟨t1, t2, t3, t4, t5, t6⟩, ⟨u1, u2, u3, u4, u5⟩, top, w1, w2, w3, w4⟩ := h.2.2.2.2.1
  have hL := h.1.1
  have hq := h.2.2.1
  unfold onceR
  rw [pu_s]
  by_cases z : S.2.2.testBit 5 = true
  · have hne := m5.mp z
    obtain ⟨p, e, a1, a2, a3, a4⟩ := w3.2 hne
    have hpe := encP_le _ _ _ a2
    rw [if_pos z, a1, if_neg (nI_neg1 (by omega))]
    obtain ⟨M1, s1, s2, -⟩ := h.wr (e := 5) (by decide) (by decide)
    refine ⟨M1, ?_, s2⟩
    unfold fX13_line_b180
    rw [show fX13_wrong M 5 = some M1 from s1, b1_s, s2.g, b1_s, if_pos rfl]
  · have hnil : aC S.1 0 = [] := by
      by_cases y : aC S.1 0 = []
      · exact y
      · exact absurd (m5.mpr y) z
    rw [if_neg z, w3.1 hnil, if_pos rfl]
    obtain ⟨M1, s1, s2, s3⟩ := (h.bit hm (i := 5) (by omega) (by omega) (by omega)).go
    have hlen := tW_len (c := c) (L := L) (q := q) (by omega)
    rw [hw, show wl 9 = 5 from by decide] at hlen
    have tp := tP_le (c := c) hq
    have tn := tN_le (c := c) hq
    have g40 : gI M1 103 40 = nI top := (s3.1 _ _ (fun _ => by decide)).trans w1
    unfold fX13_line_b180 rulR
    rw [h.g, b1_s, if_neg (by decide), s1, b1_s, pu_s, g40, pu_s]
    have f2 : ∀ a j, (a = 103 → j ≠ 38) → gI (sI M1 103 38 (nI top)) a j = gI M1 a j := fun a j y => by rw [gI_sI, if_neg (fun z => y z.1 z.2)]
    have hx := exprM (c := c) (L := L) (vf := vS) (km := kmS) (p0 := top) (lo := 0) (hi := 5) (q := tN c L q) (M := sI M1 103 38 (nI top)) kv_S (s2.1.mv (f2 _ _ (fun _ => by decide)) (fun j => f2 _ _ (fun y => absurd y (by decide)))) (s2.2.1.mv (fun j j1 j2 => f2 _ _ (fun _ => by omega)) rfl) tn.2 ((f2 _ _ (fun _ => by decide)).trans s2.2.2.2.1) ((f2 _ _ (fun _ => by decide)).trans g40) (by omega)
    cases hr : rexp c L vS 8 0 (tN c L q) with
    | error e =>
      rw [hr] at hx
      obtain ⟨M', x1, ⟨x2, x3, x4, x5⟩, x6⟩ := hx
      rw [show fX13_expression (sI M1 103 38 (nI top)) 0 5 = some M' from x1, b1_s]
      exact fS.cl (e := e) ⟨x2, x3, x4, x5, (s2.2.2.2.2.2.2.2.st (by omega)).tr x6.R⟩
    | ok v =>
      rw [hr] at hx
      obtain ⟨M', top', x1, ⟨y1, y2, y3⟩, x2, x3, x4, x5, x6, x7, x8⟩ := hx
      rw [show fX13_expression (sI M1 103 38 (nI top)) 0 5 = some M' from x1, b1_s]
      obtain ⟨r1, r2, r3, -⟩ := rexp_c vS_ok tn.2 (l := v.1) (q2 := v.2) hr
      have gg : ∀ a j, (a = 103 → 33 ≤ j ∧ j ≤ 46 ∧ (j < 40 ∨ 44 < j) ∧ j ≠ 38) → a ≠ 130 → a ≠ 131 → a ≠ 132 → gI M' a j = gI M a j := fun a j y z1 z2 z3 => by
        rw [x8.1 a j (fun e => by have := y e; omega) z2 z3 (fun e => absurd e z1), f2 a j (fun e => by have := y e; omega), s3.1 a j (fun e => by have := y e; omega)]
      refine closeM ⟨y1, y2, y3, x2, ⟨⟨?_, ?_, ?_, ?_, ?_, fun b hb => ?_⟩, ⟨fun k hk => ?_, fun k hk => ?_, fun k hk => ?_, fun k hk => ?_, fun k hk => ?_⟩, top' + 1, x3, by omega, ?_, ?_⟩, ?_, ⟨?_, ?_⟩, (s2.2.2.2.2.2.2.2.st (by omega)).tr x8.R⟩
      · exact (gg _ _ (fun _ => by decide) (by decide) (by decide) (by decide)).trans t1
      · exact (gg _ _ (fun _ => by decide) (by decide) (by decide) (by decide)).trans t2
      · exact (gg _ _ (fun _ => by decide) (by decide) (by decide) (by decide)).trans t3
      · exact (gg _ _ (fun _ => by decide) (by decide) (by decide) (by decide)).trans t4
      · exact (gg _ _ (fun _ => by decide) (by decide) (by decide) (by decide)).trans t5
      · exact (gg _ _ (fun y => absurd y (by decide)) (by decide) (by decide) (by decide)).trans (t6 b hb)
      · rw [gg _ _ (fun y => absurd y (by decide)) (by decide) (by decide) (by decide), gg _ _ (fun y => absurd y (by decide)) (by decide) (by decide) (by decide), gg _ _ (fun y => absurd y (by decide)) (by decide) (by decide) (by decide), gg _ _ (fun y => absurd y (by decide)) (by decide) (by decide) (by decide)]
        exact u1 k hk
      · rw [gg _ _ (fun y => absurd y (by decide)) (by decide) (by decide) (by decide)]
        exact u2 k hk
      · rw [gg _ _ (fun y => absurd y (by decide)) (by decide) (by decide) (by decide)]
        exact u3 k hk
      · rw [gg _ _ (fun y => absurd y (by decide)) (by decide) (by decide) (by decide), gg _ _ (fun y => absurd y (by decide)) (by decide) (by decide) (by decide)]
        exact u4 k hk
      · rw [gg _ _ (fun y => absurd y (by decide)) (by decide) (by decide) (by decide), gg _ _ (fun y => absurd y (by decide)) (by decide) (by decide) (by decide)]
        exact u5 k hk
      · show ruleN M' 38 kmS v.1 (top' + 1)
        exact ⟨fun e => absurd e (wfC_ne r3), fun _ => ⟨top, top', (x8.1 _ _ (fun _ => by decide) (by decide) (by decide) (fun e => absurd e (by decide))).trans gI_ss, x6, x7, by omega⟩⟩
      · show ruleN M' 39 kmL (aC S.1 1) (top' + 1)
        exact w4.mv (by omega) (gg _ _ (fun _ => by decide) (by decide) (by decide) (by decide)) fun k hk => by
          rw [x8.1 130 k (fun e => absurd e (by decide)) (by decide) (by decide) (fun _ => hk), f2 _ _ (fun e => absurd e (by decide)), s3.1 130 k (fun e => absurd e (by decide))]
      · show _ = S.2.1
        rw [← h.2.2.2.2.2.1]
        exact rA_mv fun j => gg _ _ (fun y => absurd y (by decide)) (by decide) (by decide) (by decide)
      · show _ = if (S.2.2 ||| 2 ^ 5).testBit 0 = true then (1 : Int32) else 0
        rw [msk_or hm (by decide) 0 (by decide), if_neg (by decide)]
        exact (gg _ _ (fun _ => by decide) (by decide) (by decide) (by decide)).trans h.2.2.2.2.2.2.1.1
      · show _ = if (S.2.2 ||| 2 ^ 5).testBit 4 = true then (1 : Int32) else 0
        rw [msk_or hm (by decide) 4 (by decide), if_neg (by decide)]
        exact (gg _ _ (fun _ => by decide) (by decide) (by decide) (by decide)).trans h.2.2.2.2.2.2.1.2
theorem rulM1 {c : Nat → Nat} {L : Nat} {M0 : Mem} {S : LNS} {q : Nat} {M : Mem} (hS : invS S) (hw : tW c L q = 10) (h : pM c L M0 S q M) : ouM c L M0 (pu (gI M 103 39) fun v => if v = (-1) then fX13_line_b228 M else b1 (fX13_wrong M 5) fun N => fX13_line_b228 N) (onceR c L 6 (rulR c L 1 vL) S q) := by
  obtain ⟨hA, hR, hm, -, -, -, m5, m6⟩ := hS
  obtain ⟨⟨t1, t2, t3, t4, t5, t6⟩, ⟨u1, u2, u3, u4, u5⟩, top, w1, w2, w3, w4⟩ := h.2.2.2.2.1
  have hL := h.1.1
  have hq := h.2.2.1
  unfold onceR
  rw [pu_s]
  by_cases z : S.2.2.testBit 6 = true
  · have hne := m6.mp z
    obtain ⟨p, e, a1, a2, a3, a4⟩ := w4.2 hne
    have hpe := encP_le _ _ _ a2
    rw [if_pos z, a1, if_neg (nI_neg1 (by omega))]
    obtain ⟨M1, s1, s2, -⟩ := h.wr (e := 5) (by decide) (by decide)
    refine ⟨M1, ?_, s2⟩
    unfold fX13_line_b228
    rw [show fX13_wrong M 5 = some M1 from s1, b1_s, s2.g, b1_s, if_pos rfl]
  · have hnil : aC S.1 1 = [] := by
      by_cases y : aC S.1 1 = []
      · exact y
      · exact absurd (m6.mpr y) z
    rw [if_neg z, w4.1 hnil, if_pos rfl]
    obtain ⟨M1, s1, s2, s3⟩ := (h.bit hm (i := 6) (by omega) (by omega) (by omega)).go
    have hlen := tW_len (c := c) (L := L) (q := q) (by omega)
    rw [hw, show wl 10 = 5 from by decide] at hlen
    have tp := tP_le (c := c) hq
    have tn := tN_le (c := c) hq
    have g40 : gI M1 103 40 = nI top := (s3.1 _ _ (fun _ => by decide)).trans w1
    unfold fX13_line_b228 rulR
    rw [h.g, b1_s, if_neg (by decide), s1, b1_s, pu_s, g40, pu_s]
    have f2 : ∀ a j, (a = 103 → j ≠ 39) → gI (sI M1 103 39 (nI top)) a j = gI M1 a j := fun a j y => by rw [gI_sI, if_neg (fun z => y z.1 z.2)]
    have hx := exprM (c := c) (L := L) (vf := vL) (km := kmL) (p0 := top) (lo := 3) (hi := 7) (q := tN c L q) (M := sI M1 103 39 (nI top)) kv_L (s2.1.mv (f2 _ _ (fun _ => by decide)) (fun j => f2 _ _ (fun y => absurd y (by decide)))) (s2.2.1.mv (fun j j1 j2 => f2 _ _ (fun _ => by omega)) rfl) tn.2 ((f2 _ _ (fun _ => by decide)).trans s2.2.2.2.1) ((f2 _ _ (fun _ => by decide)).trans g40) (by omega)
    cases hr : rexp c L vL 8 0 (tN c L q) with
    | error e =>
      rw [hr] at hx
      obtain ⟨M', x1, ⟨x2, x3, x4, x5⟩, x6⟩ := hx
      rw [show fX13_expression (sI M1 103 39 (nI top)) 3 7 = some M' from x1, b1_s]
      exact fS.cl (e := e) ⟨x2, x3, x4, x5, (s2.2.2.2.2.2.2.2.st (by omega)).tr x6.R⟩
    | ok v =>
      rw [hr] at hx
      obtain ⟨M', top', x1, ⟨y1, y2, y3⟩, x2, x3, x4, x5, x6, x7, x8⟩ := hx
      rw [show fX13_expression (sI M1 103 39 (nI top)) 3 7 = some M' from x1, b1_s]
      obtain ⟨r1, r2, r3, -⟩ := rexp_c vL_ok tn.2 (l := v.1) (q2 := v.2) hr
      have gg : ∀ a j, (a = 103 → 33 ≤ j ∧ j ≤ 46 ∧ (j < 40 ∨ 44 < j) ∧ j ≠ 39) → a ≠ 130 → a ≠ 131 → a ≠ 132 → gI M' a j = gI M a j := fun a j y z1 z2 z3 => by
        rw [x8.1 a j (fun e => by have := y e; omega) z2 z3 (fun e => absurd e z1), f2 a j (fun e => by have := y e; omega), s3.1 a j (fun e => by have := y e; omega)]
      refine closeM ⟨y1, y2, y3, x2, ⟨⟨?_, ?_, ?_, ?_, ?_, fun b hb => ?_⟩, ⟨fun k hk => ?_, fun k hk => ?_, fun k hk => ?_, fun k hk => ?_, fun k hk => ?_⟩, top' + 1, x3, by omega, ?_, ?_⟩, ?_, ⟨?_, ?_⟩, (s2.2.2.2.2.2.2.2.st (by omega)).tr x8.R⟩
      · exact (gg _ _ (fun _ => by decide) (by decide) (by decide) (by decide)).trans t1
      · exact (gg _ _ (fun _ => by decide) (by decide) (by decide) (by decide)).trans t2
      · exact (gg _ _ (fun _ => by decide) (by decide) (by decide) (by decide)).trans t3
      · exact (gg _ _ (fun _ => by decide) (by decide) (by decide) (by decide)).trans t4
      · exact (gg _ _ (fun _ => by decide) (by decide) (by decide) (by decide)).trans t5
      · exact (gg _ _ (fun y => absurd y (by decide)) (by decide) (by decide) (by decide)).trans (t6 b hb)
      · rw [gg _ _ (fun y => absurd y (by decide)) (by decide) (by decide) (by decide), gg _ _ (fun y => absurd y (by decide)) (by decide) (by decide) (by decide), gg _ _ (fun y => absurd y (by decide)) (by decide) (by decide) (by decide), gg _ _ (fun y => absurd y (by decide)) (by decide) (by decide) (by decide)]
        exact u1 k hk
      · rw [gg _ _ (fun y => absurd y (by decide)) (by decide) (by decide) (by decide)]
        exact u2 k hk
      · rw [gg _ _ (fun y => absurd y (by decide)) (by decide) (by decide) (by decide)]
        exact u3 k hk
      · rw [gg _ _ (fun y => absurd y (by decide)) (by decide) (by decide) (by decide), gg _ _ (fun y => absurd y (by decide)) (by decide) (by decide) (by decide)]
        exact u4 k hk
      · rw [gg _ _ (fun y => absurd y (by decide)) (by decide) (by decide) (by decide), gg _ _ (fun y => absurd y (by decide)) (by decide) (by decide) (by decide)]
        exact u5 k hk
      · show ruleN M' 38 kmS (aC S.1 0) (top' + 1)
        exact w3.mv (by omega) (gg _ _ (fun _ => by decide) (by decide) (by decide) (by decide)) fun k hk => by
          rw [x8.1 130 k (fun e => absurd e (by decide)) (by decide) (by decide) (fun _ => hk), f2 _ _ (fun e => absurd e (by decide)), s3.1 130 k (fun e => absurd e (by decide))]
      · show ruleN M' 39 kmL v.1 (top' + 1)
        exact ⟨fun e => absurd e (wfC_ne r3), fun _ => ⟨top, top', (x8.1 _ _ (fun _ => by decide) (by decide) (by decide) (fun e => absurd e (by decide))).trans gI_ss, x6, x7, by omega⟩⟩
      · show _ = S.2.1
        rw [← h.2.2.2.2.2.1]
        exact rA_mv fun j => gg _ _ (fun y => absurd y (by decide)) (by decide) (by decide) (by decide)
      · show _ = if (S.2.2 ||| 2 ^ 6).testBit 0 = true then (1 : Int32) else 0
        rw [msk_or hm (by decide) 0 (by decide), if_neg (by decide)]
        exact (gg _ _ (fun _ => by decide) (by decide) (by decide) (by decide)).trans h.2.2.2.2.2.2.1.1
      · show _ = if (S.2.2 ||| 2 ^ 6).testBit 4 = true then (1 : Int32) else 0
        rw [msk_or hm (by decide) 4 (by decide), if_neg (by decide)]
        exact (gg _ _ (fun _ => by decide) (by decide) (by decide) (by decide)).trans h.2.2.2.2.2.2.1.2
theorem kwI_l : ∀ w, w < 23 → 11 ≤ w → (kwI w < 8 ∨ 18 < kwI w) := by decide
theorem lineM {c : Nat → Nat} {L : Nat} {M0 : Mem} {S : LNS} {q : Nat} {M : Mem} (hS : invS S) (h : pM c L M0 S q M) : ouM c L M0 (fX13_line M) (lineR c L S q) := by
  obtain ⟨⟨k0, k1, k2, k3, k4, -⟩, -, hm, -⟩ := id hS
  have wle := tW_le (c := c) (L := L) (q := q)
  unfold fX13_line
  rw [known_ok h.1.1 h.2.2.1 h.2.1, b1_s]
  rcases (by omega : tW c L q = 0 ∨ tW c L q = 1 ∨ tW c L q = 2 ∨ tW c L q = 3 ∨ tW c L q = 4 ∨ tW c L q = 5 ∨ tW c L q = 6 ∨ tW c L q = 7 ∨ tW c L q = 8 ∨ tW c L q = 9 ∨ tW c L q = 10 ∨ 11 ≤ tW c L q) with e | e | e | e | e | e | e | e | e | e | e | e
  · rw [show lineR c L S q = onceR c L 0 (cityR c L) S q from by unfold lineR; simp [e]]
    rw [show kwI (tW c L q) = 8 from by rw [e]; rfl, if_pos rfl]
    exact cityM hm h
  · rw [show lineR c L S q = belR c L 0 7 (deedR c L) S q from by unfold lineR; simp [e]]
    rw [show kwI (tW c L q) = 9 from by rw [e]; rfl, if_neg (by decide), if_pos rfl]
    exact deedM k0 h
  · rw [show lineR c L S q = onceR c L 1 (wayLR c L 0) S q from by unfold lineR; simp [e]]
    rw [show kwI (tW c L q) = 10 from by rw [e]; rfl, if_neg (by decide), if_neg (by decide), if_pos rfl]
    unfold fX13_line_b43
    rw [show (10 : Int32) - 10 = nI 0 from by decide]
    exact wayM (b := 0) (by decide) hS h
  · rw [show lineR c L S q = onceR c L 2 (wayLR c L 1) S q from by unfold lineR; simp [e]]
    rw [show kwI (tW c L q) = 11 from by rw [e]; rfl, if_neg (by decide), if_neg (by decide), if_neg (by decide), if_pos rfl]
    unfold fX13_line_b43
    rw [show (11 : Int32) - 10 = nI 1 from by decide]
    exact wayM (b := 1) (by decide) hS h
  · rw [show lineR c L S q = onceR c L 3 (harR c L) S q from by unfold lineR; simp [e]]
    rw [show kwI (tW c L q) = 12 from by rw [e]; rfl, if_neg (by decide), if_neg (by decide), if_neg (by decide), if_neg (by decide), if_pos rfl]
    exact harM hS h
  · rw [show lineR c L S q = onceR c L 4 (termLR c L) S q from by unfold lineR; simp [e]]
    rw [show kwI (tW c L q) = 13 from by rw [e]; rfl, if_neg (by decide), if_neg (by decide), if_neg (by decide), if_neg (by decide), if_neg (by decide), if_pos rfl]
    exact termM hm h
  · rw [show lineR c L S q = belR c L 2 6 (friR c L) S q from by unfold lineR; simp [e]]
    rw [show kwI (tW c L q) = 14 from by rw [e]; rfl, if_neg (by decide), if_neg (by decide), if_neg (by decide), if_neg (by decide), if_neg (by decide), if_neg (by decide), if_pos rfl]
    exact friM k2 h
  · rw [show lineR c L S q = belR c L 3 7 (figR c L 0) S q from by unfold lineR; simp [e]]
    rw [show kwI (tW c L q) = 15 from by rw [e]; rfl, if_neg (by decide), if_neg (by decide), if_neg (by decide), if_neg (by decide), if_neg (by decide), if_neg (by decide), if_neg (by decide), if_pos rfl]
    unfold fX13_line_b143 fX13_line_b155
    rw [if_neg (show ¬ (15 : Int32) = 16 by decide)]
    exact figM0 k3 h
  · rw [show lineR c L S q = belR c L 4 7 (figR c L 1) S q from by unfold lineR; simp [e]]
    rw [show kwI (tW c L q) = 16 from by rw [e]; rfl, if_neg (by decide), if_neg (by decide), if_neg (by decide), if_neg (by decide), if_neg (by decide), if_neg (by decide), if_neg (by decide), if_neg (by decide), if_pos rfl]
    unfold fX13_line_b143 fX13_line_b155
    rw [if_pos (show (16 : Int32) = 16 from rfl)]
    exact figM1 k4 h
  · rw [show lineR c L S q = onceR c L 5 (rulR c L 0 vS) S q from by unfold lineR; simp [e]]
    rw [show kwI (tW c L q) = 17 from by rw [e]; rfl, if_neg (by decide), if_neg (by decide), if_neg (by decide), if_neg (by decide), if_neg (by decide), if_neg (by decide), if_neg (by decide), if_neg (by decide), if_neg (by decide), if_pos rfl]
    exact rulM0 hS e h
  · rw [show lineR c L S q = onceR c L 6 (rulR c L 1 vL) S q from by unfold lineR; simp [e]]
    rw [show kwI (tW c L q) = 18 from by rw [e]; rfl, if_neg (by decide), if_neg (by decide), if_neg (by decide), if_neg (by decide), if_neg (by decide), if_neg (by decide), if_neg (by decide), if_neg (by decide), if_neg (by decide), if_neg (by decide), if_pos rfl]
    exact rulM1 hS e h
  · rw [show lineR c L S q = .error (1, tP c L q) from by
      unfold lineR
      rw [if_neg (by omega), if_neg (by omega), if_neg (by omega), if_neg (by omega), if_neg (by omega), if_neg (by omega), if_neg (by omega), if_neg (by omega), if_neg (by omega), if_neg (by omega), if_neg (by omega)]]
    have n := kwI_l (tW c L q) (by omega) e
    have nn : ∀ x : Int32, ¬ (x < 8 ∨ 18 < x) → kwI (tW c L q) ≠ x := fun x hx y => hx (y ▸ n)
    rw [if_neg (nn 8 (by decide)), if_neg (nn 9 (by decide)), if_neg (nn 10 (by decide)), if_neg (nn 11 (by decide)), if_neg (nn 12 (by decide)), if_neg (nn 13 (by decide)), if_neg (nn 14 (by decide)), if_neg (nn 15 (by decide)), if_neg (nn 16 (by decide)), if_neg (nn 17 (by decide)), if_neg (nn 18 (by decide))]
    obtain ⟨M1, s1, s2, -⟩ := h.wr (e := 1) (by decide) (by decide)
    rw [show fX13_wrong M 1 = some M1 from s1, b1_s]
    exact s2.cl
theorem prsM_l {c : Nat → Nat} {L : Nat} {M0 : Mem} : ∀ n S q M fuel, L - q < n → n < fuel → invS S → pM c L M0 S q M → match landR c L n S q with
    | .error e => ∃ M', fX13_land_l170 fuel M = fX13_land_b191 M' ∧ fS e M0 M'
    | .ok S' => ∃ M' q', fX13_land_l170 fuel M = fX13_land_b191 M' ∧ pM c L M0 S' q' M' ∧ invS S' := by
  intro n
  induction n with
  | zero => intro S q M fuel h1; omega
  | succ n ih =>
    intro S q M fuel h1 h2 hS h
    obtain ⟨fuel, rfl⟩ : ∃ f, fuel = f + 1 := ⟨fuel - 1, by omega⟩
    have hx : fX13_land_l170 (fuel + 1) M = if tK c L q = 0 then fX13_land_b191 M else b1 (fX13_line M) fun N => fX13_land_l170 fuel N := by
      rw [fX13_land_l170, h.g, b1_s, if_neg (by decide), pu_s]
      by_cases k0 : tK c L q = 0
      · rw [if_pos k0, if_pos ((sort2 h.2.1).2.2.mpr k0)]
      · rw [if_neg k0, if_neg (fun y => k0 ((sort2 h.2.1).2.2.mp y))]
    rw [hx, landR]
    by_cases k0 : tK c L q = 0
    · rw [if_pos k0, if_pos k0]
      exact ⟨M, q, rfl, h, hS⟩
    · rw [if_neg k0, if_neg k0]
      have hl := lineM hS h
      cases hr : lineR c L S q with
      | error e =>
        rw [hr] at hl
        obtain ⟨M', y1, y2⟩ := hl
        refine ⟨M', ?_, y2⟩
        obtain ⟨fuel, rfl⟩ : ∃ f, fuel = f + 1 := ⟨fuel - 1, by omega⟩
        rw [y1, b1_s, fX13_land_l170, y2.g, b1_s, if_pos rfl]
      | ok v =>
        rw [hr] at hl
        obtain ⟨M', y1, y2⟩ := hl
        rw [y1, b1_s]
        obtain ⟨z1, z2, z3⟩ := lineR_ok h.2.2.1 hS hr
        exact ih v.1 v.2 M' fuel (by have := h.2.2.1; omega) (by omega) z1 y2
