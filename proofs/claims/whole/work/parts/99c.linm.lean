/-! TEXTS: ways, harvests, rules as the reference reads them -/
theorem setN_self {A : LA} {k v : Nat} (h : aN A k = v) : setN A k v = A := by
  obtain ⟨n, f, l⟩ := A
  unfold setN
  congr 1
  funext i
  unfold updN
  by_cases e : i = k
  · rw [if_pos e, e]; exact h.symm
  · rw [if_neg e]
theorem wayM_l {c : Nat → Nat} {L b : Nat} {M0 : Mem} {A : LA} {m : Nat} (hb : b < 2) (hD : aN A 0 ≤ 7) : ∀ n i fuel (row : Nat → Int32) q M, n + i = 8 → i ≤ 6 → n < fuel → pM c L M0 (setN A (5 + b) i, row, m) q M → ouM c L M0 (b1 (fX13_readsWay_l28 fuel M (nI b) (if i = 0 ∨ tK c L q = 2 then 1 else 0)) fun M => fX13_line_b263 M) (eb (wayL c L b (aN A 0) n i row q) fun v => closeR c L (setN A (5 + b) v.1, v.2.1, m) v.2.2) := by
  intro n
  induction n with
  | zero => intro i fuel row q M h1 h2; omega
  | succ n ih =>
    intro i fuel row q M h1 h2 h3 h
    have hq := h.2.2.1
    have hL := h.1.1
    have tn := tN_le (c := c) hq
    obtain ⟨fuel, rfl⟩ : ∃ f, fuel = f + 1 := ⟨fuel - 1, by omega⟩
    by_cases hx : i = 0 ∨ tK c L q = 2
    · have h59 : ¬ (i ≠ 0 ∧ tK c L q = 59) := by omega
      have h122 : gI M 122 b = nI i := by
        rw [h.2.2.2.2.1.1.2.2.2.2.2 b hb]
        show nI (if 5 + b = 5 + b then i else _) = _
        rw [if_pos rfl]
      have h33 : gI M 103 33 = nI (aN A 0) := by
        rw [h.2.2.2.2.1.1.1]
        show nI (if 0 = 5 + b then i else aN A 0) = _
        rw [if_neg (by omega)]
      rw [if_pos hx, wayL, if_neg h59]
      have fin : ∀ {e : Nat × Nat} {N : Mem} (w : Int32), fS e M0 N → ouF M0 (b1 (b1 (fX13_isGood N) fun vq9 => if vq9 = 0 then some N else ldI N 122 2 (nI b) fun vq10 => stI N 129 31 ((13 + (6 * nI b)) + vq10) w fun Mq11 => ldI Mq11 122 2 (nI b) fun vq12 => stI Mq11 122 2 (nI b) (vq12 + 1) fun Mq13 => pu (gI Mq13 103 27) fun vq14 => if vq14 = 2 then fX13_readsWay_b123 (fX13_readsWay_l28 fuel) Mq13 (nI b) 1 else fX13_readsWay_b123 (fX13_readsWay_l28 fuel) Mq13 (nI b) 0) fun M => fX13_line_b263 M) e := fun w hN => by
        rw [hN.g, b1_s, if_pos rfl, b1_s]
        exact hN.cl
      have hgo : fX13_readsWay_l28 (fuel + 1) M (nI b) 1 = if i = 6 then (pu (gI M 103 27) fun vq15 => if vq15 = 2 then b1 (fX13_wrong M 2) fun Mq16 => fX13_readsWay_b63 (fX13_readsWay_l28 fuel) Mq16 (nI b) else fX13_readsWay_b63 (fX13_readsWay_l28 fuel) M (nI b)) else fX13_readsWay_b63 (fX13_readsWay_l28 fuel) M (nI b) := by
        rw [fX13_readsWay_l28, if_neg (by decide), h.g, b1_s, if_neg (by decide), ldI_nI hb (by decide), h122]
        by_cases e : i = 6
        · rw [if_pos e, if_pos (by rw [e]; rfl)]
        · rw [if_neg e, if_neg (by rw [show (6 : Int32) = nI 6 from rfl, eq_nI (by omega) (by omega)]; exact e)]
      rw [hgo]
      by_cases i6 : i = 6
      · have k2 : tK c L q = 2 := by omega
        rw [if_pos i6, if_pos k2, if_pos (Or.inl i6), pu_s, if_pos ((sort2 h.2.1).1.mpr k2)]
        obtain ⟨M1, s1, s2, -⟩ := h.wr (e := 2) (by decide) (by decide)
        rw [show fX13_wrong M 2 = some M1 from s1, b1_s]
        unfold fX13_readsWay_b63 fX13_among
        rw [pu_s, s2.g, b1_s, if_pos rfl, b2_s]
        have := fin 0 s2
        exact this
      · rw [if_neg i6]
        unfold fX13_readsWay_b63 fX13_among
        rw [pu_s, h33, h.g, b1_s, if_neg (by decide), pu_s]
        by_cases k2 : tK c L q = 2
        · rw [if_pos k2, if_pos ((sort2 h.2.1).1.mpr k2), pu_s, h.2.1.2.2.2.1]
          have e30 := h.2.1.2.2.2.2.1
          rw [if_pos k2] at e30
          by_cases z4 : 4 < tN c L q - tP c L q
          · have hV : tV c L q = 10000 := by unfold tV; rw [if_pos k2, if_pos z4]
            rw [if_pos (Or.inr hV), if_pos (by rw [show (4 : Int32) = nI 4 from rfl, lt_nI (by omega) (by omega)]; exact z4)]
            obtain ⟨M1, s1, s2, -⟩ := h.wr (e := 2) (by decide) (by decide)
            unfold fX13_among_b54
            rw [show fX13_wrong M 2 = some M1 from s1, b1_s, pu_s, s2.g, b1_s, if_pos rfl, b2_s]
            have := fin (gI M1 103 30) s2
            exact this
          · have hV : tV c L q = dgv c (tP c L q) (tN c L q - tP c L q) := by unfold tV; rw [if_pos k2, if_neg z4]
            have hv4 := (tV_le (c := c) (L := L) hq).1
            have hne : ¬ (i = 6 ∨ tV c L q = 10000) := by
              rintro (y | y)
              · exact i6 y
              · exact z4 ((tV_le hq).2.mp y).2
            rw [Nat.min_eq_right (by omega), ← hV] at e30
            rw [if_neg hne, if_neg (by rw [show (4 : Int32) = nI 4 from rfl, lt_nI (by omega) (by omega)]; exact z4), pu_s, e30]
            by_cases z3 : tV c L q < aN A 0
            · rw [if_pos z3, if_pos (by rw [lt_nI (by omega) (by omega)]; exact z3)]
              unfold fX13_among_b54
              obtain ⟨M1, s1, s2, s3⟩ := h.go
              have g122 : gI M1 122 b = nI i := (s3.1 _ _ (fun e => absurd e (by decide))).trans h122
              rw [pu_s, h.g, b1_s, if_neg (by decide), s1, b1_s, b2_s, s2.g, b1_s, if_neg (by decide), ldI_nI hb (by decide), g122, e30]
              rw [show (13 + (6 * nI b)) + nI i = nI (13 + 6 * b + i) from by rw [show (6 : Int32) = nI 6 from rfl, show (13 : Int32) = nI 13 from rfl, pk_mul, nI_add, nI_add], stI_nI (by omega) (by decide), ldI_nI hb (by decide), gI_sa (by decide), g122, stI_nI hb (by decide), nI_1]
              have n1 : pM c L M0 (setN A (5 + b) (i + 1), upd row (13 + 6 * b + i) (nI (tV c L q)), m) (tN c L q) (sI (sI M1 129 (13 + 6 * b + i) (nI (tV c L q))) 122 b (nI (i + 1))) := by
                have n0 := s2.row (i := 13 + 6 * b + i) (v := nI (tV c L q)) (by omega)
                obtain ⟨⟨t1, t2, t3, t4, t5, t6⟩, ⟨u1, u2, u3, u4, u5⟩, top, w1, w2, w3, w4⟩ := n0.2.2.2.2.1
                refine putM n0 (fun a j z => by rw [gI_sa (by omega)]) rfl ⟨⟨?_, ?_, ?_, ?_, ?_, fun b' hb' => ?_⟩, ⟨fun k hk => ?_, fun k hk => ?_, fun k hk => ?_, fun k hk => ?_, fun k hk => ?_⟩, top, ?_, w2, w3.mv (Nat.le_refl _) (gI_sa (by decide)) (fun _ _ => gI_sa (by decide)), w4.mv (Nat.le_refl _) (gI_sa (by decide)) (fun _ _ => gI_sa (by decide))⟩ ((rA_mv fun j => gI_sa (by decide)).trans n0.2.2.2.2.2.1) ⟨(gI_sa (by decide)).trans n0.2.2.2.2.2.2.1.1, (gI_sa (by decide)).trans n0.2.2.2.2.2.2.1.2⟩ (frR.rf.st (by omega))
                · rw [gI_sa (by decide), t1]
                  show nI (if 0 = 5 + b then i else aN A 0) = nI (if 0 = 5 + b then i + 1 else aN A 0)
                  rw [if_neg (by omega), if_neg (by omega)]
                · rw [gI_sa (by decide), t2]
                  show nI (if 1 = 5 + b then i else aN A 1) = nI (if 1 = 5 + b then i + 1 else aN A 1)
                  rw [if_neg (by omega), if_neg (by omega)]
                · rw [gI_sa (by decide), t3]
                  show nI (if 2 = 5 + b then i else aN A 2) = nI (if 2 = 5 + b then i + 1 else aN A 2)
                  rw [if_neg (by omega), if_neg (by omega)]
                · rw [gI_sa (by decide), t4]
                  show nI (if 3 = 5 + b then i else aN A 3) = nI (if 3 = 5 + b then i + 1 else aN A 3)
                  rw [if_neg (by omega), if_neg (by omega)]
                · rw [gI_sa (by decide), t5]
                  show nI (if 4 = 5 + b then i else aN A 4) = nI (if 4 = 5 + b then i + 1 else aN A 4)
                  rw [if_neg (by omega), if_neg (by omega)]
                · show _ = nI (if 5 + b' = 5 + b then i + 1 else aN A (5 + b'))
                  by_cases e : b' = b
                  · subst e
                    rw [gI_ss, if_pos rfl]
                  · rw [gI_sj e, if_neg (by omega), t6 b' hb']
                    show nI (if 5 + b' = 5 + b then i else aN A (5 + b')) = _
                    rw [if_neg (by omega)]
                · rw [gI_sa (show (118 : Nat) ≠ 122 by decide), gI_sa (show (119 : Nat) ≠ 122 by decide), gI_sa (show (120 : Nat) ≠ 122 by decide), gI_sa (show (121 : Nat) ≠ 122 by decide)]
                  refine u1 k ?_
                  have hk' : k < if 0 = 5 + b then i + 1 else aN A 0 := hk
                  show k < if 0 = 5 + b then i else aN A 0
                  rw [if_neg (by omega)] at hk' ⊢
                  exact hk'
                · rw [gI_sa (show (123 : Nat) ≠ 122 by decide)]
                  refine u2 k ?_
                  have hk' : k < if 1 = 5 + b then i + 1 else aN A 1 := hk
                  show k < if 1 = 5 + b then i else aN A 1
                  rw [if_neg (by omega)] at hk' ⊢
                  exact hk'
                · rw [gI_sa (show (124 : Nat) ≠ 122 by decide)]
                  refine u3 k ?_
                  have hk' : k < if 2 = 5 + b then i + 1 else aN A 2 := hk
                  show k < if 2 = 5 + b then i else aN A 2
                  rw [if_neg (by omega)] at hk' ⊢
                  exact hk'
                · rw [gI_sa (show (125 : Nat) ≠ 122 by decide), gI_sa (show (126 : Nat) ≠ 122 by decide)]
                  refine u4 k ?_
                  have hk' : k < if 3 = 5 + b then i + 1 else aN A 3 := hk
                  show k < if 3 = 5 + b then i else aN A 3
                  rw [if_neg (by omega)] at hk' ⊢
                  exact hk'
                · rw [gI_sa (show (127 : Nat) ≠ 122 by decide), gI_sa (show (128 : Nat) ≠ 122 by decide)]
                  refine u5 k ?_
                  have hk' : k < if 4 = 5 + b then i + 1 else aN A 4 := hk
                  show k < if 4 = 5 + b then i else aN A 4
                  rw [if_neg (by omega)] at hk' ⊢
                  exact hk'
                · rw [gI_sa (by decide)]; exact w1
              have hkind : (gI (sI (sI M1 129 (13 + 6 * b + i) (nI (tV c L q))) 122 b (nI (i + 1))) 103 27 = 2 ↔ tK c L (tN c L q) = 2) := (sort2 n1.2.1).1
              have hnext := ih (i + 1) fuel _ _ _ (by omega) (by omega) (by omega) n1
              rw [pu_s]
              unfold fX13_readsWay_b123
              by_cases kk : tK c L (tN c L q) = 2
              · rw [if_pos (hkind.mpr kk)]
                rw [if_pos (Or.inr kk)] at hnext
                exact hnext
              · rw [if_neg (fun y => kk (hkind.mp y))]
                rw [if_neg (show ¬ (i + 1 = 0 ∨ tK c L (tN c L q) = 2) by omega)] at hnext
                exact hnext
            · rw [if_neg z3, if_neg (by rw [lt_nI (by omega) (by omega)]; exact z3)]
              obtain ⟨M1, s1, s2, -⟩ := h.wr (e := 3) (by decide) (by decide)
              unfold fX13_among_b54
              rw [show fX13_wrong M 3 = some M1 from s1, b1_s, pu_s, s2.g, b1_s, if_pos rfl, b2_s]
              have := fin (gI M1 103 30) s2
              exact this
        · rw [if_neg k2, if_neg (fun y => k2 ((sort2 h.2.1).1.mp y))]
          obtain ⟨M1, s1, s2, -⟩ := h.wr (e := 1) (by decide) (by decide)
          unfold fX13_among_b54
          rw [show fX13_wrong M 1 = some M1 from s1, b1_s, pu_s, s2.g, b1_s, if_pos rfl, b2_s]
          have := fin (gI M1 103 30) s2
          exact this
    · rw [if_neg hx, fX13_readsWay_l28, if_pos rfl, b1_s]
      have hcl := closeM h
      by_cases k59 : tK c L q = 59
      · rw [wayL, if_pos ⟨fun e => hx (Or.inl e), k59⟩]
        exact hcl
      · have e : wayL c L b (aN A 0) (n + 1) i row q = .error (1, tP c L q) := by
          rw [wayL, if_neg (fun y => k59 y.2), if_neg (fun y => hx (Or.inr y))]
        rw [e]
        unfold closeR at hcl
        rw [if_neg k59] at hcl
        exact hcl
theorem wayM {c : Nat → Nat} {L b : Nat} {M0 : Mem} {S : LNS} {q : Nat} {M : Mem} (hb : b < 2) (hS : invS S) (h : pM c L M0 S q M) : ouM c L M0 (b1 (fX13_readsWay M (nI b)) fun M => fX13_line_b263 M) (onceR c L (1 + b) (wayLR c L b) S q) := by
  obtain ⟨⟨k0, -, -, -, -, k5, k6, -⟩, -, hm, m1, m2, -⟩ := hS
  have g122 : gI M 122 b = nI (aN S.1 (5 + b)) := h.2.2.2.2.1.1.2.2.2.2.2 b hb
  have h6 : aN S.1 (5 + b) ≤ 6 := by
    rcases (by omega : b = 0 ∨ b = 1) with e | e <;> subst e <;> assumption
  have hbit : S.2.2.testBit (1 + b) = true ↔ 0 < aN S.1 (5 + b) := by
    rcases (by omega : b = 0 ∨ b = 1) with e | e <;> subst e <;> assumption
  unfold fX13_readsWay onceR
  rw [ldI_nI hb (by decide), g122]
  by_cases z : S.2.2.testBit (1 + b) = true
  · rw [if_pos z, if_pos (by rw [show (0 : Int32) = nI 0 from rfl, lt_nI (by omega) (by omega)]; exact hbit.mp z)]
    obtain ⟨M1, s1, s2, -⟩ := h.wr (e := 5) (by decide) (by decide)
    refine ouF.cl ⟨M1, ?_, s2⟩
    unfold fX13_readsWay_b14
    rw [show fX13_wrong M 5 = some M1 from s1, b1_s, s2.g, b1_s, if_pos rfl]
  · have h0 : aN S.1 (5 + b) = 0 := by
      have : ¬ 0 < aN S.1 (5 + b) := fun y => z (hbit.mpr y)
      omega
    rw [if_neg z, if_neg (by rw [h0]; decide)]
    obtain ⟨M1, s1, s2, -⟩ := (h.bit hm (i := 1 + b) (by omega) (by omega) (by omega)).go
    unfold fX13_readsWay_b14 wayLR
    rw [h.g, b1_s, if_neg (by decide), s1, b1_s]
    have hl := wayM_l (m := S.2.2 ||| 2 ^ (1 + b)) hb k0 8 0 FU S.2.1 (tN c L q) M1 rfl (by decide) (by decide) (by rw [setN_self h0]; exact s2)
    rw [if_pos (Or.inl rfl)] at hl
    exact hl
theorem harM_l {c : Nat → Nat} {L : Nat} {M0 : Mem} {row : Nat → Int32} {m : Nat} : ∀ n i fuel (A : LA) q M, n + i = 12 → i ≤ 10 → n < fuel → aN A 1 = i → pM c L M0 (A, row, m) q M → ouM c L M0 (b1 (fX13_readsHarvests_l26 fuel M (if i = 0 ∨ tK c L q = 2 then 1 else 0)) fun M => fX13_line_b263 M) (eb (harL c L n i A q) fun v => closeR c L (v.1, row, m) v.2) := by
  intro n
  induction n with
  | zero => intro i fuel A q M h1 h2; omega
  | succ n ih =>
    intro i fuel A q M h1 h2 h3 hA h
    have hq := h.2.2.1
    obtain ⟨fuel, rfl⟩ : ∃ f, fuel = f + 1 := ⟨fuel - 1, by omega⟩
    by_cases hx : i = 0 ∨ tK c L q = 2
    · have h59 : ¬ (i ≠ 0 ∧ tK c L q = 59) := by omega
      have h34 : gI M 103 34 = nI i := by rw [← hA]; exact h.2.2.2.2.1.1.2.1
      rw [if_pos hx, harL, if_neg h59]
      have hgo : fX13_readsHarvests_l26 (fuel + 1) M 1 = if i = 10 then (pu (gI M 103 27) fun vq14 => if vq14 = 2 then b1 (fX13_wrong M 2) fun Mq15 => fX13_readsHarvests_b59 (fX13_readsHarvests_l26 fuel) Mq15 else fX13_readsHarvests_b59 (fX13_readsHarvests_l26 fuel) M) else fX13_readsHarvests_b59 (fX13_readsHarvests_l26 fuel) M := by
        rw [fX13_readsHarvests_l26, if_neg (by decide), h.g, b1_s, if_neg (by decide), pu_s, h34]
        by_cases e : i = 10
        · rw [if_pos e, if_pos (by rw [e]; rfl)]
        · rw [if_neg e, if_neg (by rw [show (10 : Int32) = nI 10 from rfl, eq_nI (by omega) (by omega)]; exact e)]
      rw [hgo]
      by_cases i10 : i = 10
      · have k2 : tK c L q = 2 := by omega
        rw [if_pos i10, if_pos (show i = 10 ∧ tK c L q = 2 from ⟨i10, k2⟩), pu_s, if_pos ((sort2 h.2.1).1.mpr k2)]
        obtain ⟨M1, s1, s2, -⟩ := h.wr (e := 2) (by decide) (by decide)
        rw [show fX13_wrong M 2 = some M1 from s1, b1_s]
        unfold fX13_readsHarvests_b59
        rw [s2.num, b2_s, s2.g, b1_s, if_pos rfl, b1_s]
        exact s2.cl
      · rw [if_neg i10, if_neg (show ¬ (i = 10 ∧ tK c L q = 2) from fun y => i10 y.1), eb_eb]
        unfold fX13_readsHarvests_b59
        have hn := numM (lo := 0) (hi := 99) h (by decide) (by decide)
        cases hr : numR c L 0 99 q with
        | error e =>
          rw [hr] at hn
          obtain ⟨w, M', y1, y2⟩ := hn
          rw [show fX13_number M 0 99 = some (w, M') from y1, b2_s, y2.1.g, b1_s, if_pos rfl, b1_s]
          exact y2.1.cl
        | ok a =>
          rw [hr] at hn
          obtain ⟨M1, y1, s2, y3⟩ := hn
          have g34 : gI M1 103 34 = nI i := by rw [← hA]; exact s2.2.2.2.2.1.1.2.1
          rw [show fX13_number M 0 99 = some (nI a.1, M1) from y1, b2_s, s2.g, b1_s, if_neg (by decide), pu_s, g34, stI_nI (by omega) (by decide), pu_s, gI_sa (by decide), g34, pu_s, nI_1]
          have n1 : pM c L M0 (setN (setF A 4 i (nI a.1)) 1 (i + 1), row, m) a.2 (sI (sI M1 123 i (nI a.1)) 103 34 (nI (i + 1))) := by
            have n0 := s2.arr (a := 123) (i := i) (v := nI a.1) (by decide) (by omega) (fun _ => by show aN A 1 ≤ i; omega) (by omega) (by omega) (by omega)
            obtain ⟨⟨t1, t2, t3, t4, t5, t6⟩, ⟨u1, u2, u3, u4, u5⟩, top, w1, w2, w3, w4⟩ := n0.2.2.2.2.1
            refine putM n0 (fun a j z => by rw [gI_sI, if_neg (by omega)]) rfl ⟨⟨?_, gI_ss, ?_, ?_, ?_, fun b' hb' => ?_⟩, ⟨fun k hk => ?_, fun k hk => ?_, fun k hk => ?_, fun k hk => ?_, fun k hk => ?_⟩, top, ?_, w2, w3.mv (Nat.le_refl _) (gI_sj (by decide)) (fun _ _ => gI_sa (by decide)), w4.mv (Nat.le_refl _) (gI_sj (by decide)) (fun _ _ => gI_sa (by decide))⟩ ((rA_mv fun j => gI_sa (by decide)).trans n0.2.2.2.2.2.1) ⟨(gI_sj (by decide)).trans n0.2.2.2.2.2.2.1.1, (gI_sj (by decide)).trans n0.2.2.2.2.2.2.1.2⟩ (frR.rf.st (by omega))
            · rw [gI_sj (by decide)]; exact t1
            · rw [gI_sj (by decide)]; exact t3
            · rw [gI_sj (by decide)]; exact t4
            · rw [gI_sj (by decide)]; exact t5
            · rw [gI_sa (by decide), t6 b' hb']
              show nI (aN A (5 + b')) = nI (if 5 + b' = 1 then i + 1 else aN A (5 + b'))
              rw [if_neg (by omega)]
            · repeat rw [gI_sa (show (118 : Nat) ≠ 103 by decide)]
              repeat rw [gI_sa (show (119 : Nat) ≠ 103 by decide)]
              repeat rw [gI_sa (show (120 : Nat) ≠ 103 by decide)]
              repeat rw [gI_sa (show (121 : Nat) ≠ 103 by decide)]
              exact u1 k hk
            · have hk' : k < i + 1 := hk
              show _ = aF (setN (setF A 4 i (nI a.1)) 1 (i + 1)) 4 k
              rw [gI_sa (by decide), aF_N, aF_F]
              by_cases ei : k = i
              · subst ei
                rw [gI_ss, if_pos ⟨rfl, rfl⟩]
              · rw [if_neg (fun y => ei y.2)]
                exact u2 k (show k < aN A 1 by omega)
            · rw [gI_sa (show (124 : Nat) ≠ 103 by decide)]; exact u3 k hk
            · rw [gI_sa (show (125 : Nat) ≠ 103 by decide), gI_sa (show (126 : Nat) ≠ 103 by decide)]; exact u4 k hk
            · rw [gI_sa (show (127 : Nat) ≠ 103 by decide), gI_sa (show (128 : Nat) ≠ 103 by decide)]; exact u5 k hk
            · rw [gI_sj (by decide)]; exact w1
          have hkind : (gI (sI (sI M1 123 i (nI a.1)) 103 34 (nI (i + 1))) 103 27 = 2 ↔ tK c L a.2 = 2) := (sort2 n1.2.1).1
          have hnext := ih (i + 1) fuel _ _ _ (by omega) (by omega) (by omega) rfl n1
          rw [pu_s]
          unfold fX13_readsHarvests_b108
          by_cases kk : tK c L a.2 = 2
          · rw [if_pos (hkind.mpr kk)]
            rw [if_pos (Or.inr kk)] at hnext
            exact hnext
          · rw [if_neg (fun y => kk (hkind.mp y))]
            rw [if_neg (show ¬ (i + 1 = 0 ∨ tK c L a.2 = 2) by omega)] at hnext
            exact hnext
    · rw [if_neg hx, fX13_readsHarvests_l26, if_pos rfl, b1_s]
      have hcl := closeM h
      by_cases k59 : tK c L q = 59
      · rw [harL, if_pos ⟨fun e => hx (Or.inl e), k59⟩]
        exact hcl
      · have e : harL c L (n + 1) i A q = .error (1, tP c L q) := by
          rw [harL, if_neg (fun y => k59 y.2), if_neg (fun y => hx (Or.inr y.2))]
          unfold numR
          rw [if_neg (fun y => hx (Or.inr y))]
          rfl
        rw [e]
        unfold closeR at hcl
        rw [if_neg k59] at hcl
        exact hcl
theorem harM {c : Nat → Nat} {L : Nat} {M0 : Mem} {S : LNS} {q : Nat} {M : Mem} (hS : invS S) (h : pM c L M0 S q M) : ouM c L M0 (b1 (fX13_readsHarvests M) fun M => fX13_line_b263 M) (onceR c L 3 (harR c L) S q) := by
  obtain ⟨⟨-, k1, -⟩, -, hm, -, -, m3, -⟩ := hS
  have g34 : gI M 103 34 = nI (aN S.1 1) := h.2.2.2.2.1.1.2.1
  unfold fX13_readsHarvests onceR
  rw [pu_s, g34]
  by_cases z : S.2.2.testBit 3 = true
  · rw [if_pos z, if_pos (by rw [show (0 : Int32) = nI 0 from rfl, lt_nI (by omega) (by omega)]; exact m3.mp z)]
    obtain ⟨M1, s1, s2, -⟩ := h.wr (e := 5) (by decide) (by decide)
    refine ouF.cl ⟨M1, ?_, s2⟩
    unfold fX13_readsHarvests_b12
    rw [show fX13_wrong M 5 = some M1 from s1, b1_s, s2.g, b1_s, if_pos rfl]
  · have h0 : aN S.1 1 = 0 := by
      have : ¬ 0 < aN S.1 1 := fun y => z (m3.mpr y)
      omega
    rw [if_neg z, if_neg (by rw [h0]; decide)]
    obtain ⟨M1, s1, s2, -⟩ := (h.bit hm (i := 3) (by omega) (by omega) (by omega)).go
    unfold fX13_readsHarvests_b12 harR
    rw [h.g, b1_s, if_neg (by decide), s1, b1_s]
    have hl := harM_l (m := S.2.2 ||| 2 ^ 3) 12 0 FU S.1 (tN c L q) M1 rfl (by decide) (by decide) h0 s2
    rw [if_pos (Or.inl rfl)] at hl
    exact hl
