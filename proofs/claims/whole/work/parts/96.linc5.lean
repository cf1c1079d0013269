/-! TEXTS: a rule's line, a line, as the class reads them -/
theorem max_nI {a b : Nat} (ha : a ≤ 700) (hb : b ≤ 700) : (if nI a < nI b then nI b else nI a) = nI (max a b) := by
  by_cases h : a < b
  · rw [if_pos (by rw [lt_nI (by omega) (by omega)]; exact h), Nat.max_eq_right (by omega)]
  · rw [if_neg (by rw [lt_nI (by omega) (by omega)]; exact h), Nat.max_eq_left (by omega)]
theorem rulC {c : Nat → Nat} {L P i : Nat} {M0 : Mem} {S : LNS} {q : Nat} {M : Mem} {vf : Nat → Int32} (hP : HP P M0) (hi : i < 2) (hvf : vf = vfo P (P + (15 + i))) (hok : vfOk vf (6 - i)) (h : pC c L P M0 S q M) : outC c L P M0 (fX6_ruleLine M (P + (15 + i))) (rulR c L i vf S q) := by
  have hp := hP.1
  have hL := h.1.1
  have hq := h.2.2.1
  have hkk : kd (P + (15 + i)) = 7 := by
    rcases (by omega : i = 0 ∨ i = 1) with e | e
    · rw [e]; exact hP.k.2.1
    · rw [e]; exact hP.k.2.2.1
  obtain ⟨-, -, -, ⟨⟨t1, t2, t3, t4, t5, t6⟩, ⟨u1, u2, u3, u4, u5⟩, ⟨w1, w2, w3, w4⟩⟩, k5, k6, k7⟩ := id h
  obtain ⟨s1, a1, a2, a3, a4⟩ := w1
  obtain ⟨s2, b1', b2', b3', b4'⟩ := w2
  have hs0 : max (s1 + (aC S.1 0).length) (s2 + (aC S.1 1).length) ≤ q := by omega
  have hs1 : s1 + (aC S.1 0).length ≤ max (s1 + (aC S.1 0).length) (s2 + (aC S.1 1).length) := Nat.le_max_left _ _
  have hs2 : s2 + (aC S.1 1).length ≤ max (s1 + (aC S.1 0).length) (s2 + (aC S.1 1).length) := Nat.le_max_right _ _
  generalize hm : max (s1 + (aC S.1 0).length) (s2 + (aC S.1 1).length) = s0 at hs0 hs1 hs2
  unfold fX6_ruleLine rulR
  rw [ck_t hkk, pu_s, pu_s, show gR (sR M 3 7 (P + (15 + i))) 3 7 = P + (15 + i) from by rw [gR_sR, if_pos ⟨rfl, rfl⟩], ck_t hkk, pu_s, show gR (sR M 3 7 (P + (15 + i))) 3 1 = P from by rw [gR_sR, if_neg (by decide)]; exact h.gR hP, ck_t hP.k.1, pu_s, gI_sR, a2, pu_s, ck_t hP.k.1, pu_s, gI_sR, b2', max_nI (by omega) (by omega), hm, pu_s]
  unfold fX8_begin
  rw [ck_t hkk, pu_s, pu_s, pu_s, b1_s]
  generalize eM : sI (sI (sI (sR M 3 7 (P + (15 + i))) (P + (15 + i)) 1 (nI s0)) (P + (15 + i)) 2 (nI s0)) (P + (15 + i)) 3 0 = N
  have n1 : ∀ a j, a ≠ P + (15 + i) → gI N a j = gI M a j := fun a j y => by rw [← eM, gI_sa y, gI_sa y, gI_sa y, gI_sR]
  have n2 : gI N (P + (15 + i)) 1 = nI s0 := by rw [← eM, gI_sj (by decide), gI_sj (by decide), gI_ss]
  have n3 : gI N (P + (15 + i)) 2 = nI s0 := by rw [← eM, gI_sj (by decide), gI_ss]
  have n4 : gI N (P + (15 + i)) 3 = 0 := by rw [← eM, gI_ss]
  have n5 : ∀ a j, (a = 3 → j ≠ 7) → gR N a j = gR M a j := fun a j y => by
    rw [← eM, gR_sI, gR_sI, gR_sI, gR_sR, if_neg (fun z => y z.1 z.2)]
  have n6 : gR N 3 7 = P + (15 + i) := by rw [← eM, gR_sI, gR_sI, gR_sI, gR_sR, if_pos ⟨rfl, rfl⟩]
  have hX : HX P (P + (15 + i)) N := ⟨hp, by omega, (n5 3 1 (fun _ => by decide)).trans (h.gR hP), n6⟩
  have hc : cX c L P (P + (15 + i)) s0 N 0 q [] N := by
    obtain ⟨z1, z2, z3, -⟩ := h
    refine ⟨⟨⟨z1.1, fun j hj => ⟨(z1.2 j hj).1, by rw [n1 _ _ (by omega)]; exact (z1.2 j hj).2⟩⟩, ⟨by rw [n1 _ _ (by omega)]; exact z2.1, by rw [n1 _ _ (by omega)]; exact z2.2.1, by rw [n1 _ _ (by omega)]; exact z2.2.2.1, by rw [n1 _ _ (by omega)]; exact z2.2.2.2.1, by rw [n1 _ _ (by omega)]; exact z2.2.2.2.2.1, by rw [n5 _ _ (fun y => absurd y (by decide))]; exact z2.2.2.2.2.2⟩, z3, n3, fun k hk => absurd hk (Nat.not_lt_zero k), ?_, frE.rf⟩, Or.inl n4, fun _ x hx => by cases hx⟩
    show s0 + 0 + 0 ≤ q
    omega
  have toQ : ∀ M', frE P (P + (15 + i)) s0 N M' → frQ P M0 M' := fun M' hf => k7.tr ⟨fun a j x1 x2 x3 => (hf.1 a j (by omega) (fun y => absurd y x1) (fun y => by omega) (fun y => by omega)).trans (n1 a j (by omega)), fun a j x1 x2 => (hf.2 a j x1).trans (n5 a j x2), fun _ => by rw [hf.2 3 7 (by decide), n6]; exact hkk⟩
  have hlev := rexpC (c := c) (L := L) (s0 := s0) hX 6 0 rfl 0 [] q N hc
  rw [show (8 - 0 : Nat) = 8 from rfl, ← hvf] at hlev
  cases hr : rexp c L vf 8 0 q with
  | error e =>
    rw [hr] at hlev
    obtain ⟨M', x1, x2, x3, x4⟩ := hlev
    exact ⟨M', by rw [show fX6_expr 8 N 0 = some (0, M') from x1, b2_s, if_pos rfl], toQ M' x2, x3, x4⟩
  | ok v =>
    rw [hr] at hlev
    obtain ⟨M', x1, ⟨y1, y2, y3, y4, y5, y6, y7⟩, x3, x4⟩ := hlev
    obtain ⟨r1, r2, -, -⟩ := rexp_c hok hq (l := v.1) (q2 := v.2) hr
    rw [show fX6_expr 8 N 0 = some (1, M') from x1, b2_s, if_neg (by decide)]
    have yl : ([] : List Int32) ++ v.1 = v.1 := List.nil_append _
    rw [yl] at y4 y5 y6 x4
    -- what is not the rule's own
    have fo : ∀ a j, a ≠ 27 → (a = 3 → j ≠ 3 ∧ j ≠ 4) → a ≠ P + (15 + i) → (a = P + 14 → j < s0) → gI M' a j = gI M a j := fun a j z1 z2 z3 z4 => (y7.1 a j z1 z2 (fun y => absurd y z3) z4).trans (n1 a j z3)
    refine outC.if1 (closeC hP ?_)
    refine ⟨y1, y2, y3, ⟨⟨?_, ?_, ?_, ?_, ?_, fun b hb => ?_⟩, ⟨fun d hd => ?_, fun d hd => ?_, fun d hd => ?_, fun d hd => ?_, fun d hd => ?_⟩, ?_⟩, ?_, ?_, toQ M' y7⟩
    · rw [fo _ _ (by omega) (by omega) (by omega) (by omega)]; exact t1
    · rw [fo _ _ (by omega) (by omega) (by omega) (by omega)]; exact t2
    · rw [fo _ _ (by omega) (by omega) (by omega) (by omega)]; exact t3
    · rw [fo _ _ (by omega) (by omega) (by omega) (by omega)]; exact t4
    · rw [fo _ _ (by omega) (by omega) (by omega) (by omega)]; exact t5
    · rw [fo _ _ (by omega) (by omega) (by omega) (by omega)]; exact t6 b hb
    · rw [fo _ _ (by omega) (by omega) (by omega) (by omega), fo _ _ (by omega) (by omega) (by omega) (by omega), fo _ _ (by omega) (by omega) (by omega) (by omega), fo _ _ (by omega) (by omega) (by omega) (by omega)]; exact u1 d hd
    · rw [fo _ _ (by omega) (by omega) (by omega) (by omega)]; exact u2 d hd
    · rw [fo _ _ (by omega) (by omega) (by omega) (by omega)]; exact u3 d hd
    · rw [fo _ _ (by omega) (by omega) (by omega) (by omega), fo _ _ (by omega) (by omega) (by omega) (by omega)]; exact u4 d hd
    · rw [fo _ _ (by omega) (by omega) (by omega) (by omega), fo _ _ (by omega) (by omega) (by omega) (by omega)]; exact u5 d hd
    · have own : ruleQ M' (P + (15 + i)) (P + 14) v.1 v.2 := ⟨s0, (y7.1 _ _ (by omega) (by omega) (fun _ => by decide) (by omega)).trans n2, y4, by omega, y5⟩
      rcases (by omega : i = 0 ∨ i = 1) with e | e
      · subst e
        refine ⟨own, ⟨s2, ?_, ?_, ?_, fun k hk => ?_⟩, x3, x4⟩
        · exact (fo (P + 16) 1 (by omega) (by omega) (by omega) (by omega)).trans b1'
        · exact (fo (P + 16) 2 (by omega) (by omega) (by omega) (by omega)).trans b2'
        · show s2 + (aC S.1 1).length ≤ v.2
          omega
        · have hk' : k < (aC S.1 1).length := hk
          show (aC S.1 1)[k]? = _
          rw [fo (P + 14) _ (by omega) (by omega) (by omega) (by omega)]
          exact b4' k hk'
      · subst e
        refine ⟨⟨s1, ?_, ?_, ?_, fun k hk => ?_⟩, own, ?_, fun z => ?_⟩
        · exact (fo (P + 15) 1 (by omega) (by omega) (by omega) (by omega)).trans a1
        · exact (fo (P + 15) 2 (by omega) (by omega) (by omega) (by omega)).trans a2
        · show s1 + (aC S.1 0).length ≤ v.2
          omega
        · have hk' : k < (aC S.1 0).length := hk
          show (aC S.1 0)[k]? = _
          rw [fo (P + 14) _ (by omega) (by omega) (by omega) (by omega)]
          exact a4 k hk'
        · rw [fo (P + 15) 3 (by omega) (by omega) (by omega) (by omega)]; exact w3
        · rw [fo (P + 15) 3 (by omega) (by omega) (by omega) (by omega)] at z
          exact w4 z
    · show _ = S.2.1
      rw [← k5]
      exact rC_21 (fun a j _ _ => fo a j (by omega) (by omega) (by omega) (by omega))
    · rw [fo 3 5 (by decide) (fun _ => by decide) (by omega) (by omega)]; exact k6
theorem mask_nI : ∀ m, m < 128 → ∀ i, i < 7 → (nI m &&& nI (2 ^ i) = 0 ↔ ¬ m.testBit i = true) ∧ nI m ||| nI (2 ^ i) = nI (m ||| 2 ^ i) := by decide +kernel
theorem onceC {c : Nat → Nat} {L P i : Nat} {M0 : Mem} {S : LNS} {q : Nat} {M : Mem} {k : LNS → Nat → RLN} {K : Mem → Option (Int32 × Mem)} (hP : HP P M0) (hi : i < 7) (hm : S.2.2 < 128) (h : pC c L P M0 S q M) (hk : ∀ M1, pC c L P M0 (S.1, S.2.1, S.2.2 ||| 2 ^ i) (tN c L q) M1 → outC c L P M0 (K M1) (k (S.1, S.2.1, S.2.2 ||| 2 ^ i) (tN c L q))) : outC c L P M0 (b2 (fX6_once M (nI (2 ^ i))) fun v Mq => if v = 0 then some (0, Mq) else K Mq) (onceR c L i k S q) := by
  have hp := hP.1
  have k6 : gI M 3 5 = nI S.2.2 := h.2.2.2.2.2.1
  obtain ⟨m1, m2⟩ := mask_nI S.2.2 hm i hi
  unfold fX6_once onceR
  rw [pu_s, k6]
  by_cases z : S.2.2.testBit i = true
  · rw [if_pos z, if_neg (fun y => m1.mp y z)]
    obtain ⟨M', r1, r2⟩ := h.ref (e := 5)
    exact ⟨M', by rw [show (b2 (fX6_refuse M 5) fun v Mq => zz v (some (v, Mq))) = some (0, M') from r1, b2_s, if_pos rfl], r2⟩
  · rw [if_neg z, if_pos (m1.mpr z), pu_s, m2, pu_s]
    have h' : pC c L P M0 (S.1, S.2.1, S.2.2 ||| 2 ^ i) q (sI M 3 5 (nI (S.2.2 ||| 2 ^ i))) :=
      putP h (fun a j y => by rw [gI_sa (by omega)]) rfl (h.2.2.2.1.mv (Nat.le_refl _) fun a j _ _ => by rw [gI_sa (by omega)]) ((rC_n (by decide)).trans h.2.2.2.2.1) gI_ss (frQ.rf.st (Or.inl rfl))
    obtain ⟨M1, s1, s2, -⟩ := h'.step hP
    rw [s1, b1_s, b2_s, if_neg (by decide)]
    exact hk M1 s2
theorem belC {c : Nat → Nat} {L P i most : Nat} {M0 : Mem} {S : LNS} {q : Nat} {M : Mem} {k : LNS → Nat → RLN} {K : Mem → Option (Int32 × Mem)} (hP : HP P M0) (hn : aN S.1 i ≤ 999) (hmo : most ≤ 999) (h : pC c L P M0 S q M) (hk : ∀ M1, aN S.1 i < most → pC c L P M0 S (tN c L q) M1 → outC c L P M0 (K M1) (k S (tN c L q))) : outC c L P M0 (b2 (fX6_below M (nI (aN S.1 i)) (nI most)) fun v Mq => if v = 0 then some (0, Mq) else K Mq) (belR c L i most k S q) := by
  unfold fX6_below belR
  by_cases z : aN S.1 i < most
  · rw [if_pos z, if_pos (by rw [lt_nI (by omega) (by omega)]; exact z)]
    obtain ⟨M1, s1, s2, -⟩ := h.step hP
    rw [s1, b1_s, b2_s, if_neg (by decide)]
    exact hk M1 z s2
  · rw [if_neg z, if_neg (by rw [lt_nI (by omega) (by omega)]; exact z)]
    obtain ⟨M', r1, r2⟩ := h.ref (e := 2)
    exact ⟨M', by rw [show (b2 (fX6_refuse M 2) fun v Mq => zz v (some (v, Mq))) = some (0, M') from r1, b2_s, if_pos rfl], r2⟩
theorem ord_nI : ∀ w, w < 23 → fJe_ordinal (1000 + w) = some (nI w) := by decide +kernel
theorem ldS_nI {β : Type} {w : Nat} {k : Int32 → Option β} (h : w < 23) : ldS (nI w) k = k (swm w) := by
  unfold ldS
  rw [nI_clamp (by omega), if_neg]
  rintro (y | y)
  · exact nI_pos (by omega) y
  · omega
theorem lineC {c : Nat → Nat} {L P : Nat} {M0 : Mem} {S : LNS} {q : Nat} {M : Mem} (hP : HP P M0) (hS : invS S) (h : pC c L P M0 S q M) : outC c L P M0 (fX6_line M) (lineR c L S q) := by
  obtain ⟨⟨k0, k1, k2, k3, k4, -⟩, -, hm, -⟩ := hS
  have hr : gR M 3 1 = P := h.gR hP
  have hk := hP.k.1
  have e6 : gR M 27 6 = 1000 + tW c L q := h.2.1.2.2.2.2.2
  have wle := tW_le (c := c) (L := L) (q := q)
  obtain ⟨⟨t1, t2, t3, t4, t5, t6⟩, -⟩ := h.2.2.2.1
  unfold fX6_line
  rw [pu_s, e6, ck_t (by omega), ord_nI _ (by omega), b1_s, ldS_nI (by omega)]
  rcases (by omega : tW c L q = 0 ∨ tW c L q = 1 ∨ tW c L q = 2 ∨ tW c L q = 3 ∨ tW c L q = 4 ∨ tW c L q = 5 ∨ tW c L q = 6 ∨ tW c L q = 7 ∨ tW c L q = 8 ∨ tW c L q = 9 ∨ tW c L q = 10 ∨ 11 ≤ tW c L q) with e | e | e | e | e | e | e | e | e | e | e | e
  · rw [show lineR c L S q = onceR c L 0 (cityR c L) S q from by unfold lineR; simp [e]]
    rw [show swm (tW c L q) = 1 from by rw [e]; rfl, if_pos rfl]
    exact onceC (i := 0) hP (by decide) hm h fun M1 h1 => outC.if1 (cityC hP h1)
  · rw [show lineR c L S q = belR c L 0 7 (deedR c L) S q from by unfold lineR; simp [e]]
    rw [show swm (tW c L q) = 2 from by rw [e]; rfl, if_neg (by decide), if_pos rfl]
    rw [pu_s, hr, ck_t hk, pu_s, t1]
    exact belC (i := 0) (most := 7) hP (by omega) (by decide) h fun M1 z h1 => outC.if1 (deedC hP h1 z)
  · rw [show lineR c L S q = onceR c L 1 (wayLR c L 0) S q from by unfold lineR; simp [e]]
    rw [show swm (tW c L q) = 3 from by rw [e]; rfl, if_neg (by decide), if_neg (by decide), if_pos rfl]
    exact onceC (i := 1) hP (by decide) hm h fun M1 h1 => outC.if1 (wayC (b := 0) hP (by decide) h1 k0)
  · rw [show lineR c L S q = onceR c L 2 (wayLR c L 1) S q from by unfold lineR; simp [e]]
    rw [show swm (tW c L q) = 4 from by rw [e]; rfl, if_neg (by decide), if_neg (by decide), if_neg (by decide), if_pos rfl]
    exact onceC (i := 2) hP (by decide) hm h fun M1 h1 => outC.if1 (wayC (b := 1) hP (by decide) h1 k0)
  · rw [show lineR c L S q = onceR c L 3 (harR c L) S q from by unfold lineR; simp [e]]
    rw [show swm (tW c L q) = 5 from by rw [e]; rfl, if_neg (by decide), if_neg (by decide), if_neg (by decide), if_neg (by decide), if_pos rfl]
    exact onceC (i := 3) hP (by decide) hm h fun M1 h1 => outC.if1 (harC hP h1)
  · rw [show lineR c L S q = onceR c L 4 (termLR c L) S q from by unfold lineR; simp [e]]
    rw [show swm (tW c L q) = 6 from by rw [e]; rfl, if_neg (by decide), if_neg (by decide), if_neg (by decide), if_neg (by decide), if_neg (by decide), if_pos rfl]
    exact onceC (i := 4) hP (by decide) hm h fun M1 h1 => outC.if1 (termC hP h1)
  · rw [show lineR c L S q = belR c L 2 6 (friR c L) S q from by unfold lineR; simp [e]]
    rw [show swm (tW c L q) = 7 from by rw [e]; rfl, if_neg (by decide), if_neg (by decide), if_neg (by decide), if_neg (by decide), if_neg (by decide), if_neg (by decide), if_pos rfl]
    rw [pu_s, hr, ck_t hk, pu_s, t3]
    exact belC (i := 2) (most := 6) hP (by omega) (by decide) h fun M1 z h1 => outC.if1 (friC hP h1 z)
  · rw [show lineR c L S q = belR c L 3 7 (figR c L 0) S q from by unfold lineR; simp [e]]
    rw [show swm (tW c L q) = 8 from by rw [e]; rfl, if_neg (by decide), if_neg (by decide), if_neg (by decide), if_neg (by decide), if_neg (by decide), if_neg (by decide), if_neg (by decide), if_pos rfl]
    rw [pu_s, hr, ck_t hk, pu_s, t4]
    refine belC (i := 3) (most := 7) hP (by omega) (by decide) h fun M1 z h1 => ?_
    rw [pu_s, h1.gR hP, ck_t hk]
    exact outC.if1 (figC0 hP h1 z)
  · rw [show lineR c L S q = belR c L 4 7 (figR c L 1) S q from by unfold lineR; simp [e]]
    rw [show swm (tW c L q) = 9 from by rw [e]; rfl, if_neg (by decide), if_neg (by decide), if_neg (by decide), if_neg (by decide), if_neg (by decide), if_neg (by decide), if_neg (by decide), if_neg (by decide), if_pos rfl]
    rw [pu_s, hr, ck_t hk, pu_s, t5]
    refine belC (i := 4) (most := 7) hP (by omega) (by decide) h fun M1 z h1 => ?_
    rw [pu_s, h1.gR hP, ck_t hk]
    exact outC.if1 (figC1 hP h1 z)
  · rw [show lineR c L S q = onceR c L 5 (rulR c L 0 vS) S q from by unfold lineR; simp [e]]
    rw [show swm (tW c L q) = 10 from by rw [e]; rfl, if_neg (by decide), if_neg (by decide), if_neg (by decide), if_neg (by decide), if_neg (by decide), if_neg (by decide), if_neg (by decide), if_neg (by decide), if_neg (by decide), if_pos rfl]
    refine onceC (i := 5) hP (by decide) hm h fun M1 h1 => ?_
    rw [pu_s, h1.gR hP, ck_t hk]
    exact outC.if1 (rulC (i := 0) hP (by decide) (funext fun w => (if_pos rfl).symm) vS_ok h1)
  · rw [show lineR c L S q = onceR c L 6 (rulR c L 1 vL) S q from by unfold lineR; simp [e]]
    rw [show swm (tW c L q) = 11 from by rw [e]; rfl, if_neg (by decide), if_neg (by decide), if_neg (by decide), if_neg (by decide), if_neg (by decide), if_neg (by decide), if_neg (by decide), if_neg (by decide), if_neg (by decide), if_neg (by decide), if_pos rfl]
    refine onceC (i := 6) hP (by decide) hm h fun M1 h1 => ?_
    rw [pu_s, h1.gR hP, ck_t hk]
    exact outC.if1 (rulC (i := 1) hP (by decide) (funext fun w => (if_neg (by omega)).symm) vL_ok h1)
  · rw [show lineR c L S q = .error (1, tP c L q) from by
      unfold lineR
      rw [if_neg (by omega), if_neg (by omega), if_neg (by omega), if_neg (by omega), if_neg (by omega), if_neg (by omega), if_neg (by omega), if_neg (by omega), if_neg (by omega), if_neg (by omega), if_neg (by omega)]]
    rw [show swm (tW c L q) = 0 from if_neg (by omega), if_neg (by decide), if_neg (by decide), if_neg (by decide), if_neg (by decide), if_neg (by decide), if_neg (by decide), if_neg (by decide), if_neg (by decide), if_neg (by decide), if_neg (by decide), if_neg (by decide)]
    exact h.ref (e := 1)
