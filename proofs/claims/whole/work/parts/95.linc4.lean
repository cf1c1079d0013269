/-! TEXTS: ways and harvests as the class reads them -/
theorem b6_nI : ∀ b, b < 2 → ∀ i, i < 6 → nI b * 6 + nI i = nI (6 * b + i) := by decide
theorem eb_eb {α β γ : Type} {x : Except (Nat × Nat) α} {k : α → Except (Nat × Nat) β} {k2 : β → Except (Nat × Nat) γ} : eb (eb x k) k2 = eb x fun a => eb (k a) k2 := by cases x <;> rfl
theorem wayC_x {c : Nat → Nat} {L P b : Nat} {M0 : Mem} {S : LNS} (hP : HP P M0) (hb : b < 2) {i q : Nat} {M : Mem} (h : pC c L P M0 S q M) : outC c L P M0 (fX6_wayLine_b128 M (nI b) (nI i)) (closeR c L (setN S.1 (5 + b) i, S.2.1, S.2.2) q) := by
  have hp := hP.1
  unfold fX6_wayLine_b128
  rw [pu_s, h.gR hP, ck_t hP.k.1, stI_nI hb (by decide)]
  obtain ⟨-, -, -, ⟨⟨t1, t2, t3, t4, t5, t6⟩, ⟨u1, u2, u3, u4, u5⟩, -⟩, k5, k6, -⟩ := id h
  refine outC.zz (closeC hP ?_)
  refine putP h (S' := (setN S.1 (5 + b) i, S.2.1, S.2.2)) (fun a j y => by rw [gI_sa (by omega)]) rfl ⟨⟨?_, ?_, ?_, ?_, ?_, fun b' hb' => ?_⟩, ⟨fun i hi => ?_, fun i hi => ?_, fun i hi => ?_, fun i hi => ?_, fun i hi => ?_⟩, ruls_mv (h.2.2.2.1) (fun i => rfl) (fun a j _ _ => by rw [gI_sa (by omega)])⟩ ?_ ?_ (frQ.rf.st (Or.inr (Or.inr (by omega))))
  · rw [gI_sa (by omega), aN_N, if_neg (by omega)]; exact t1
  · rw [gI_sa (by omega), aN_N, if_neg (by omega)]; exact t2
  · rw [gI_sa (by omega), aN_N, if_neg (by omega)]; exact t3
  · rw [gI_sa (by omega), aN_N, if_neg (by omega)]; exact t4
  · rw [gI_sa (by omega), aN_N, if_neg (by omega)]; exact t5
  · rw [aN_N]
    by_cases e : b' = b
    · subst e
      rw [gI_ss, if_pos rfl]
    · rw [gI_sj e, if_neg (by omega)]
      exact t6 b' hb'
  · repeat rw [gI_sa (by omega)]
    exact u1 i (by have hi' : i < aN (setN S.1 (5 + b) _) 0 := hi; rw [aN_N, if_neg (by omega)] at hi'; exact hi')
  · rw [gI_sa (by omega)]
    exact u2 i (by have hi' : i < aN (setN S.1 (5 + b) _) 1 := hi; rw [aN_N, if_neg (by omega)] at hi'; exact hi')
  · rw [gI_sa (by omega)]
    exact u3 i (by have hi' : i < aN (setN S.1 (5 + b) _) 2 := hi; rw [aN_N, if_neg (by omega)] at hi'; exact hi')
  · repeat rw [gI_sa (by omega)]
    exact u4 i (by have hi' : i < aN (setN S.1 (5 + b) _) 3 := hi; rw [aN_N, if_neg (by omega)] at hi'; exact hi')
  · repeat rw [gI_sa (by omega)]
    exact u5 i (by have hi' : i < aN (setN S.1 (5 + b) _) 4 := hi; rw [aN_N, if_neg (by omega)] at hi'; exact hi')
  · rw [← k5]
    exact rC_21 (fun a j _ _ => by rw [gI_sa (by omega)])
  · rw [gI_sa (by omega)]; exact k6
theorem wayC_l {c : Nat → Nat} {L P b : Nat} {M0 : Mem} {A : LA} {m : Nat} (hP : HP P M0) (hb : b < 2) (hD : aN A 0 ≤ 7) : ∀ n i fuel (row : Nat → Int32) q M, n + i = 8 → i ≤ 6 → n ≤ fuel → pC c L P M0 (A, row, m) q M → outC c L P M0 (fX6_wayLine_l4 fuel M (nI b) (nI i) (nI i)) (eb (wayL c L b (aN A 0) n i row q) fun v => closeR c L (setN A (5 + b) v.1, v.2.1, m) v.2.2) := by
  intro n
  induction n with
  | zero => intro i fuel row q M h1 h2; omega
  | succ n ih =>
    intro i fuel row q M h1 h2 h3 h
    have hp := hP.1
    have e4 : gI M 27 4 = nI (tK c L q) := h.2.1.2.2.2.1
    have e5 : gI M 27 5 = nI (tV c L q) := h.2.1.2.2.2.2.1
    have hv := (tV_le (c := c) (L := L) h.2.2.1).1
    have kle : tK c L q ≤ 61 := by rcases tK_cases (c := c) (L := L) (q := q) with z | z | z | z | z <;> omega
    have hN : gI M P 0 = nI (aN A 0) := h.2.2.2.1.1.1
    obtain ⟨fuel, rfl⟩ : ∃ f, fuel = f + 1 := ⟨fuel - 1, by omega⟩
    have b26 : ¬ (i ≠ 0 ∧ tK c L q = 59) → outC c L P M0 (fX6_wayLine_b26 (fX6_wayLine_l4 fuel) M (nI b) (nI i) (nI i)) (eb (wayL c L b (aN A 0) (n + 1) i row q) fun v => closeR c L (setN A (5 + b) v.1, v.2.1, m) v.2.2) := by
      intro z0
      rw [wayL, if_neg z0]
      unfold fX6_wayLine_b26 fX6_wayLine_b62
      rw [pu_s, e4]
      by_cases k2 : tK c L q = 2
      · rw [if_pos k2, if_pos (by rw [k2]; rfl)]
        by_cases z1 : i = 6
        · rw [if_pos (Or.inl z1), if_pos (by rw [z1]; rfl)]
          exact h.ref (e := 2)
        · rw [if_neg (by rw [show (6 : Int32) = nI 6 from rfl, eq_nI (by omega) (by omega)]; exact z1), pu_s, e5]
          by_cases z2 : tV c L q = 10000
          · rw [if_pos (Or.inr z2), if_pos (by rw [z2]; rfl)]
            exact h.ref (e := 2)
          · rw [if_neg (show ¬ (i = 6 ∨ tV c L q = 10000) from by rintro (y | y); exact z1 y; exact z2 y), if_neg (by rw [show (10000 : Int32) = nI 10000 from rfl, eq_nI (by omega) (by omega)]; exact z2), pu_s, pu_s, h.gR hP, ck_t hP.k.1, pu_s, hN]
            by_cases z3 : tV c L q < aN A 0
            · rw [if_pos z3, if_pos (by rw [lt_nI (by omega) (by omega)]; exact z3), pu_s, b6_nI b hb i (by omega), stI_nI (by omega) (by decide), pu_s, nI_1]
              have h' : pC c L P M0 (A, upd row (13 + 6 * b + i) (nI (tV c L q)), m) q (sI M 24 (6 * b + i) (nI (tV c L q))) := by
                refine putP h (fun a j y => by rw [gI_sa (by omega)]) rfl (h.2.2.2.1.mv (Nat.le_refl _) fun a j _ _ => by rw [gI_sa (by omega)]) ?_ ?_ (frQ.rf.st (Or.inr (Or.inl (by omega))))
                · show rC _ 21 = upd row (13 + 6 * b + i) _
                  have h5 : rC M 21 = row := h.2.2.2.2.1
                  rw [Nat.add_assoc, ← h5]
                  exact rC_a3 (k := 21) (by omega)
                · rw [gI_sa (by decide)]; exact h.2.2.2.2.2.1
              obtain ⟨M1, s1, s2, -⟩ := h'.step hP
              rw [s1, b1_s, pu_s]
              exact ih (i + 1) fuel _ _ M1 (by omega) (by omega) (by omega) s2
            · rw [if_neg z3, if_neg (by rw [lt_nI (by omega) (by omega)]; exact z3)]
              exact h.ref (e := 3)
      · rw [if_neg k2, if_neg (by rw [show (2 : Int32) = nI 2 from rfl, eq_nI (by omega) (by omega)]; exact k2)]
        exact h.ref (e := 1)
    rw [fX6_wayLine_l4, if_neg (by rw [show (6 : Int32) = nI 6 from rfl, lt_nI (by omega) (by omega)]; omega)]
    by_cases i0 : i = 0
    · rw [if_pos (by rw [i0]; rfl)]
      exact b26 (fun y => y.1 i0)
    · rw [if_neg (nI_ne0 (by omega) (by omega)), pu_s, e4]
      by_cases k59 : tK c L q = 59
      · rw [if_pos (by rw [k59]; rfl), wayL, if_pos ⟨i0, k59⟩]
        exact wayC_x hP hb h
      · rw [if_neg (by rw [show (59 : Int32) = nI 59 from rfl, eq_nI (by omega) (by omega)]; exact k59)]
        exact b26 (fun y => k59 y.2)
theorem wayC {c : Nat → Nat} {L P b : Nat} {M0 : Mem} {S : LNS} {q : Nat} {M : Mem} (hP : HP P M0) (hb : b < 2) (h : pC c L P M0 S q M) (hD : aN S.1 0 ≤ 7) : outC c L P M0 (fX6_wayLine M (nI b)) (wayLR c L b S q) := by
  unfold fX6_wayLine wayLR
  exact wayC_l hP hb hD 8 0 FU S.2.1 q M rfl (by decide) (by decide) h
theorem harC_l {c : Nat → Nat} {L P : Nat} {M0 : Mem} {row : Nat → Int32} {m : Nat} (hP : HP P M0) : ∀ n i fuel (A : LA) q M, n + i = 12 → i ≤ 10 → n ≤ fuel → (i = 0 ∨ aN A 1 = i) → pC c L P M0 (A, row, m) q M → outC c L P M0 (fX6_harvestsLine_l2 fuel M (nI i)) (eb (harL c L n i A q) fun v => closeR c L (v.1, row, m) v.2) := by
  intro n
  induction n with
  | zero => intro i fuel A q M h1 h2; omega
  | succ n ih =>
    intro i fuel A q M h1 h2 h3 hA h
    have hp := hP.1
    have e4 : gI M 27 4 = nI (tK c L q) := h.2.1.2.2.2.1
    have kle : tK c L q ≤ 61 := by rcases tK_cases (c := c) (L := L) (q := q) with z | z | z | z | z <;> omega
    obtain ⟨fuel, rfl⟩ : ∃ f, fuel = f + 1 := ⟨fuel - 1, by omega⟩
    have b47 : ¬ (i = 10 ∧ tK c L q = 2) → outC c L P M0 (fX6_harvestsLine_b47 (fX6_harvestsLine_l2 fuel) M (nI i)) (eb (eb (numR c L 0 99 q) fun v => harL c L n (i + 1) (setN (setF A 4 i (nI v.1)) 1 (i + 1)) v.2) fun v => closeR c L (v.1, row, m) v.2) := by
      intro z0
      rw [eb_eb]
      unfold fX6_harvestsLine_b47
      refine numC (i := 0) (lo := 0) (hi := 99) hP h (by decide) (by decide) (by decide) fun a M1 ha h4 g1 _ => ?_
      have k2 : tK c L q = 2 := by
        unfold numR at ha
        by_cases y : tK c L q = 2
        · exact y
        · rw [if_neg y] at ha; cases ha
      have i10 : i < 10 := by have : ¬ i = 10 := fun y => z0 ⟨y, k2⟩; omega
      unfold fX6_harvestsLine_b91
      have hr : gR M1 3 1 = P := h4.gR hP
      rw [show (10 : Int32) = nI 10 from rfl, if_pos (by rw [lt_nI (by omega) (by omega)]; exact i10), pu_s, h4.gR hP, ck_t hP.k.1, ld26.1, g1, stI_nI i10 (by decide), pu_s, show gR (sI M1 (P + 6) i (nI a.1)) 3 1 = P from hr, ck_t hP.k.1, pu_s, pu_s, nI_1]
      refine ih (i + 1) fuel _ _ _ (by omega) (by omega) (by omega) (Or.inr rfl) ?_
      obtain ⟨-, -, -, ⟨⟨t1, t2, t3, t4, t5, t6⟩, ⟨u1, u2, u3, u4, u5⟩, -⟩, k5, k6, -⟩ := id h4
      refine putP h4 (fun a j y => by rw [gI_sa (by omega), gI_sa (by omega)]) rfl ⟨⟨?_, ?_, ?_, ?_, ?_, fun b hb => ?_⟩, ⟨fun k hk => ?_, fun k hk => ?_, fun k hk => ?_, fun k hk => ?_, fun k hk => ?_⟩, ruls_mv (h4.2.2.2.1) (fun i => rfl) (fun a j _ _ => by rw [gI_sa (by omega), gI_sa (by omega)])⟩ ?_ ?_ ((frQ.rf.st (Or.inr (Or.inr (by omega)))).st (Or.inr (Or.inr (by omega))))
      · rw [gI_sj (by omega), gI_sa (by omega)]; exact t1
      · rw [gI_ss]; rfl
      · rw [gI_sj (by omega), gI_sa (by omega)]; exact t3
      · rw [gI_sa (by omega), gI_sa (by omega)]; exact t4
      · rw [gI_sa (by omega), gI_sa (by omega)]; exact t5
      · rw [gI_sa (by omega), gI_sa (by omega), t6 b hb]
        show _ = nI (aN (setN (setF A 4 i _) 1 (i + 1)) (5 + b))
        rw [aN_N, if_neg (by omega), aN_F]
      · repeat rw [gI_sa (by omega), gI_sa (by omega)]
        exact u1 k hk
      · have hk' : k < i + 1 := hk
        show _ = aF (setN (setF A 4 i (nI a.1)) 1 (i + 1)) 4 k
        rw [gI_sa (by omega), aF_N, aF_F]
        by_cases ei : k = i
        · subst ei
          rw [gI_ss, if_pos ⟨rfl, rfl⟩]
        · rw [gI_sj ei, if_neg (fun y => ei y.2)]
          refine u2 k ?_
          show k < aN A 1
          omega
      · rw [gI_sa (by omega), gI_sa (by omega)]; exact u3 k hk
      · repeat rw [gI_sa (by omega), gI_sa (by omega)]
        exact u4 k hk
      · repeat rw [gI_sa (by omega), gI_sa (by omega)]
        exact u5 k hk
      · rw [← k5]
        exact rC_21 (fun a j _ _ => by rw [gI_sa (by omega), gI_sa (by omega)])
      · rw [gI_sa (by omega), gI_sa (by omega)]; exact k6
    have b24 : ¬ (i ≠ 0 ∧ tK c L q = 59) → outC c L P M0 (fX6_harvestsLine_b24 (fX6_harvestsLine_l2 fuel) M (nI i)) (eb (harL c L (n + 1) i A q) fun v => closeR c L (v.1, row, m) v.2) := by
      intro z0
      rw [harL, if_neg z0]
      unfold fX6_harvestsLine_b24
      by_cases i10 : i = 10
      · rw [if_pos (by rw [i10]; rfl), pu_s, e4]
        by_cases k2 : tK c L q = 2
        · rw [if_pos (by rw [k2]; rfl), if_pos ⟨i10, k2⟩]
          exact h.ref (e := 2)
        · rw [if_neg (by rw [show (2 : Int32) = nI 2 from rfl, eq_nI (by omega) (by omega)]; exact k2), if_neg (fun y => k2 y.2)]
          exact b47 (fun y => k2 y.2)
      · rw [if_neg (by rw [show (10 : Int32) = nI 10 from rfl, eq_nI (by omega) (by omega)]; exact i10), if_neg (fun y => i10 y.1)]
        exact b47 (fun y => i10 y.1)
    rw [fX6_harvestsLine_l2, if_neg (by rw [show (10 : Int32) = nI 10 from rfl, lt_nI (by omega) (by omega)]; omega)]
    by_cases i0 : i = 0
    · rw [if_pos (by rw [i0]; rfl)]
      exact b24 (fun y => y.1 i0)
    · rw [if_neg (nI_ne0 (by omega) (by omega)), pu_s, e4]
      by_cases k59 : tK c L q = 59
      · rw [if_pos (by rw [k59]; rfl), harL, if_pos ⟨i0, k59⟩]
        exact outC.zz (closeC hP h)
      · rw [if_neg (by rw [show (59 : Int32) = nI 59 from rfl, eq_nI (by omega) (by omega)]; exact k59)]
        exact b24 (fun y => k59 y.2)
theorem harC {c : Nat → Nat} {L P : Nat} {M0 : Mem} {S : LNS} {q : Nat} {M : Mem} (hP : HP P M0) (h : pC c L P M0 S q M) : outC c L P M0 (fX6_harvestsLine M) (harR c L S q) := by
  unfold fX6_harvestsLine harR
  exact harC_l hP 12 0 FU S.1 q M rfl (by decide) (by decide) (Or.inl rfl) h
