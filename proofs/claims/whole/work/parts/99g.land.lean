/-! LAND: both -/
theorem nI_nn {x : Int32} (h : ¬ x < 0) : ∃ k : Nat, k < 2 ^ 31 ∧ x = nI k := by
  have h1 : 0 ≤ x.toInt := by
    rw [Int32.lt_iff_toInt_lt, show ((0 : Int32)).toInt = 0 from by decide] at h
    omega
  have h2 := Int32.toInt_lt x
  refine ⟨x.toInt.toNat, by omega, ?_⟩
  apply Int32.toInt_inj.mp
  rw [nI_toInt (by omega)]
  omega
def tpc (M : Mem) (i : Nat) : Nat := (gI M 116 i).toNatClampNeg
theorem landQ_C {A : LA} {P q : Nat} {M : Mem} (hP : P = 4 ∨ P = 29) (hq : q ≤ 700) (h : landQ P A q M) : landC A M P := by
  have hk : rcT (P + 15) = P + 14 ∧ rcT (P + 16) = P + 14 := by rcases hP with e | e <;> subst e <;> decide
  obtain ⟨⟨t1, t2, t3, t4, t5, t6⟩, ⟨u1, u2, u3, u4, u5⟩, ⟨w1, w2, w3, w4⟩⟩ := h
  refine ⟨t1, t2, t3, t4, t5, t6 0 (by decide), t6 1 (by decide), u1, u2, u3, u4, u5, ?_, ?_, w4⟩
  · obtain ⟨s, a1, a2, a3, a4⟩ := w1
    refine ⟨s, a1, a2, by omega, fun i hi => ?_⟩
    rw [hk.1]
    have := a4 i hi
    rw [List.getElem?_eq_getElem hi] at this
    exact (Option.some.inj this).symm
  · obtain ⟨s, a1, a2, a3, a4⟩ := w2
    refine ⟨s, a1, a2, by omega, fun i hi => ?_⟩
    rw [hk.2]
    have := a4 i hi
    rw [List.getElem?_eq_getElem hi] at this
    exact (Option.some.inj this).symm
theorem ruleN_M {M R : Mem} {f : Nat} {km : Nat → Nat} {l : List Int32} {top : Nat} {at_ : Int32} (h : ruleN R f km l top) (ht : top ≤ 1400) (ha : at_ = gI R 103 f) (hc : ∀ k, k < 1400 → gI M 115 k = gI R 130 k) : ruleM M at_ km l := by
  unfold ruleM
  by_cases z : l = []
  · rw [if_pos z, ha]
    exact h.1 z
  · rw [if_neg z]
    obtain ⟨p, e, a1, a2, a3, a4⟩ := h.2 z
    have hpe := encP_le _ _ _ a2
    exact ⟨p, by omega, ha.trans a1, encP_M _ _ _ (encP_c _ _ _ a2 (fun i _ i2 => hc i (by omega))) ((hc e (by omega)).trans a3) (by omega)⟩
theorem land_no {A : LA} {M : Mem} {n : Nat} (h1 : gI M 0 1 = nI n) (h2 : gI M 103 21 = nI n) {x : Int32} (hx : x < 0 ∨ nI n < x) : fX12_land M x = some (.error 2) ∧ ∀ M1, RO M M1 → simM (fX13_land M1 x) M1 (.error 1) := by
  refine ⟨?_, fun M1 f => ?_⟩
  · unfold fX12_land fX12_land_b12
    by_cases z : x < 0
    · rw [if_pos z]
    · rw [if_neg z, pu_s, h1, if_pos (by rcases hx with y | y; exact absurd y z; exact y)]
  · refine ⟨0, sI (sI M1 103 0 0) 103 0 1, ?_, (RO.rf.st (by unfold scr; omega)).st (by unfold scr; omega), gI_ss⟩
    have g21 : gI M1 103 21 = nI n := (f.1 103 21 (by unfold scr; omega)).trans h2
    unfold fX13_land fX13_land_b22 fX13_land_b23
    rw [pu_s]
    by_cases z : x < 0
    · rw [if_pos z, right_eq m00 _ _ (by decide), if_pos rfl, b2_s, if_pos rfl]
    · rw [if_neg z, pu_s, gI_sj (by decide), g21, if_pos (by rcases hx with y | y; exact absurd y z; exact y), right_eq m00 _ _ (by decide), if_pos rfl, b2_s, if_pos rfl]
theorem rC_81 {M M' : Mem} (f : ∀ a j, 81 ≤ a → a ≤ 85 → gI M' a j = gI M a j) : rC M' 81 = rC M 81 := by
  funext j
  unfold rC
  by_cases hj : j < 31
  · have := pl_4 j hj
    rw [if_pos hj, if_pos hj, f _ _ (by omega) (by omega)]
  · rw [if_neg hj, if_neg hj]
theorem rB_133 {M M' : Mem} (f : ∀ j, gI M' 133 j = gI M 133 j) : rB M' 0 = rB M 0 := by
  funext j
  unfold rB
  rw [f]
theorem land_a {A : LA} {M : Mem} (h : Rel A M) (x : Int32) : (fX12_land M x = some (.error 2) ∧ ∀ M1, RO M M1 → simM (fX13_land M1 x) M1 (.error 1)) ∨ ∃ v M1, fX12_land M x = some (.ok (v, M1)) ∧ ∀ u, ∃ M2 A', fX13_land (sL M1 144 0 u) x = some (v, M2) ∧ Rel A' M2 ∧ gI M2 103 0 = 0 := by
  obtain ⟨n, hn, t1, t2, t3⟩ := h.2.2.2.2.2.2.2.1
  by_cases hx : x < 0 ∨ nI n < x
  · exact Or.inl (land_no (A := A) t1 t2 hx)
  · refine Or.inr ?_
    obtain ⟨L, l1, l2⟩ := nI_nn (x := x) (fun y => hx (Or.inl y))
    subst l2
    have hLn : L ≤ n := by
      have : ¬ nI n < nI L := fun y => hx (Or.inr y)
      rw [lt_nI (by omega) (by omega)] at this
      omega
    have hL : L ≤ 700 := by omega
    obtain ⟨q1, q2, q3⟩ := h.2.2.2.2.2.2.2.2.2.2.2
    have hp := land_cases q1
    have hp' := land_cases h.2.1.1
    have hc : ∀ i, i < L → tpc M i < 256 ∧ gI M 116 i = nI (tpc M i) ∧ gI M 1 i = b8 (tpc M i) := fun i hi => by
      obtain ⟨c, c1, c2, c3⟩ := t3 i (by omega)
      have e : tpc M i = c := by
        unfold tpc
        rw [c2]
        exact nI_clamp (by omega)
      rw [e]
      exact ⟨c1, c2, c3⟩
    have htp : tpC (tpc M) L (sI M 0 1 0) := ⟨hL, fun i hi => ⟨(hc i hi).1, by rw [gI_sa (by decide)]; exact (hc i hi).2.2⟩⟩
    have hC := parseC (P := gR M 3 1) (M := sI M 0 1 0) hp rfl htp
    have hpre : fX12_land M (nI L) = b2 (fX6_parse (sI M 0 1 0) (nI L)) fun vq3 Mq4 => if vq3 = 0 then (pu (sI Mq4 0 2 ((-1))) fun Mq5 => pu (gR Mq5 3 1) fun oq6 => ck (kd oq6 = 4) <| pu (gR Mq5 28 0) fun oq7 => ck (kd oq7 = 4) <| pu (sR Mq5 3 1 oq7) fun Mq8 => pu (sR Mq8 28 0 oq6) fun Mq9 => b1 (fX3_become Mq9 81 21) fun Mq10 => pu (sI Mq10 91 0 (0)) fun Mq11 => pu (sI Mq11 93 0 (0)) fun Mq12 => pu (sI Mq12 0 11 (0)) fun Mq13 => some (.ok (0, Mq13))) else (pu (gI Mq4 3 4) fun vq14 => pu (sI Mq4 0 2 (vq14)) fun Mq15 => ldI Mq15 2 3 (0) fun vq16 => stI Mq15 2 3 (0) (vq16 + 1) fun Mq17 => some (.ok (vq3, Mq17))) := by
      unfold fX12_land
      rw [if_neg (nI_pos (by omega)), pu_s, t1, if_neg (by rw [lt_nI (by omega) (by omega)]; omega), pu_s]
    obtain ⟨h1, h2, h3, h4, h5, h6, h7, h8, h9, h10, h11, h12⟩ := id h
    rw [hpre]
    cases hr : landR (tpc M) L 701 LNS0 0 with
    | error e =>
      rw [hr] at hC
      obtain ⟨M', y1, y2, y3⟩ := hC
      have he1 : 1 ≤ e.1 := landR_e hL 701 LNS0 0 (Nat.zero_le _) invS0 hr
      have he10 : e.1 < 10 := by
        have hm := prsM (c := tpc M) (N := M) hn hLn t2 (fun i hi => ⟨(hc i hi).1, (hc i hi).2.1⟩)
        rw [hr] at hm
        obtain ⟨R, -, -, -, -, -, z⟩ := hm
        exact z
      have g2 : gI M' 2 0 = gI M 2 0 := (y2.1 2 0 (by decide) (by decide) (by omega)).trans (gI_sa (by decide))
      refine ⟨nI e.1, sI (sI M' 0 2 (nI e.2)) 2 0 (gI M 2 0 + 1), ?_, fun u => ?_⟩
      · rw [y1, b2_s, if_neg (nI_ne0 (by omega) (by omega)), pu_s, y3, pu_s, show (0 : Int32) = nI 0 from rfl, ldI_nI (by decide) (by decide), stI_nI (by decide) (by decide), gI_sa (by decide), g2]
      · generalize eN : sL (sI (sI M' 0 2 (nI e.2)) 2 0 (gI M 2 0 + 1)) 144 0 u = N
        have gN : ∀ a j, (a = 0 → j ≠ 2) → (a = 2 → j ≠ 0) → gI N a j = gI M' a j := fun a j z1 z2 => by
          rw [← eN, gI_sL, gI_sI, if_neg (fun y => z2 y.1 y.2), gI_sI, if_neg (fun y => z1 y.1 y.2)]
        have gNM : ∀ a j, a ≠ 3 → (a < 21 ∨ 27 < a) → (a < gR M 3 1 ∨ gR M 3 1 + 16 < a) → (a = 0 → j ≠ 1 ∧ j ≠ 2) → (a = 2 → j ≠ 0) → gI N a j = gI M a j := fun a j z1 z2 z3 z4 z5 => by
          rw [gN a j (fun y => (z4 y).2) z5, y2.1 a j z1 z2 z3, gI_sI, if_neg (fun y => (z4 y.1).1 y.2)]
        have hm := prsM (c := tpc M) (N := N) hn hLn ((gNM 103 21 (by decide) (by decide) (by omega) (fun y => absurd y (by decide)) (fun y => absurd y (by decide))).trans t2) (fun i hi => ⟨(hc i hi).1, (gNM 116 i (by decide) (by decide) (by omega) (fun y => absurd y (by decide)) (fun y => absurd y (by decide))).trans (hc i hi).2.1⟩)
        rw [hr] at hm
        obtain ⟨R, x1, ⟨x2, x3, x4, x5⟩, x6, x7, x8, x9⟩ := hm
        have g117 : gI R 117 0 = gI M 117 0 := (x2 117 0 (fun y => absurd y (by decide)) (by decide)).trans (gNM 117 0 (by decide) (by decide) (by omega) (fun y => absurd y (by decide)) (fun y => absurd y (by decide)))
        refine ⟨sI R 117 0 (gI M 117 0 + 1), A, ?_, ?_, by rw [gI_sa (by decide)]; exact x4⟩
        · rw [x1]
          unfold fX13_land_b191
          rw [good_0 x6 x8 x9, b1_s, if_pos rfl, show (0 : Int32) = nI 0 from rfl, ldI_nI (by decide) (by decide), stI_nI (by decide) (by decide), pu_s, gI_sa (by decide), x6, g117]
        · generalize eM2 : sI R 117 0 (gI M 117 0 + 1) = M2
          have gR2 : ∀ a j, (a = 103 → j ≠ 0 ∧ j ≠ 21 ∧ (j < 22 ∨ 46 < j)) → (a < 118 ∨ 132 < a) → (a = 117 → j ≠ 0) → gI M2 a j = gI N a j := fun a j z1 z2 z3 => by
            rw [← eM2, gI_sI, if_neg (fun y => z3 y.1 y.2)]
            exact x2 a j z1 z2
          have g : ∀ a j, a ≠ 3 → (a < 21 ∨ 27 < a) → (a < gR M 3 1 ∨ gR M 3 1 + 16 < a) → (a = 0 → j ≠ 1 ∧ j ≠ 2) → (a = 2 → j ≠ 0) → (a = 103 → j ≠ 0 ∧ j ≠ 21 ∧ (j < 22 ∨ 46 < j)) → (a < 118 ∨ 132 < a) → (a = 117 → j ≠ 0) → gI M2 a j = gI M a j := fun a j z1 z2 z3 z4 z5 z6 z7 z8 => (gR2 a j z6 z7 z8).trans (gNM a j z1 z2 z3 z4 z5)
          have e2 : M2.2.2 = M'.2.2 := by
            rw [← eM2]
            show R.2.2 = _
            rw [x3, ← eN]
            rfl
          have gr : ∀ a j, a ≠ 27 → (a = 3 → j ≠ 7) → gR M2 a j = gR M a j := fun a j z1 z2 => by
            have : gR M2 a j = gR M' a j := by unfold gR; rw [e2]
            rw [this]
            exact y2.2.1 a j z1 z2
          have k37 : kd (gR M2 3 7) = 7 := by
            have : gR M2 3 7 = gR M' 3 7 := by unfold gR; rw [e2]
            rw [this]
            exact y2.2.2 q3
          have g0 : ∀ a j, 81 ≤ a → a ≤ 102 → gI M2 a j = gI M a j := fun a j z1 z2 => g a j (by omega) (by omega) (by omega) (by omega) (by omega) (by omega) (by omega) (by omega)
          have g1 : ∀ j, 46 < j → gI M2 103 j = gI M 103 j := fun j z => g 103 j (by decide) (by decide) (by omega) (by omega) (by omega) (by omega) (by omega) (by omega)
          have g3 : ∀ a j, 104 ≤ a → a ≤ 116 → gI M2 a j = gI M a j := fun a j z1 z2 => g a j (by omega) (by omega) (by omega) (by omega) (by omega) (by omega) (by omega) (by omega)
          have g4 : ∀ a j, 133 ≤ a → gI M2 a j = gI M a j := fun a j z1 => g a j (by omega) (by omega) (by omega) (by omega) (by omega) (by omega) (by omega) (by omega)
          have eB : rB M2 0 = rB M 0 := rB_133 (fun j => g4 133 j (by decide))
          refine ⟨h1, ⟨?_, ?_⟩, h3.mv (fun a j z1 z2 => g a j (by omega) (by omega) (by omega) (by omega) (by omega) (fun e => by have := z1 e; omega) (by omega) (by omega)), ?_, by rw [eB]; exact h5, h6.mv (g0 _ _ (by decide) (by decide)) (g1 _ (by decide)) (fun j => g0 _ _ (by decide) (by decide)) (fun j => g4 _ _ (by decide)), h7.mv (g0 _ _ (by decide) (by decide)) (g1 _ (by decide)) (fun j => g0 _ _ (by decide) (by decide)) (fun j => g0 _ _ (by decide) (by decide)) (fun j => g4 _ _ (by decide)), ⟨0, by decide, ?_, ?_, fun i hi => absurd hi (Nat.not_lt_zero i)⟩, fun k hk => ?_, ?_, h11.mv (g 0 11 (by decide) (by decide) (by omega) (by decide) (by decide) (by decide) (by decide) (by decide)) (fun j z1 z2 => g1 j (by omega)) (fun a j z1 z2 => g0 a j (by omega) (by omega)) (fun a j z1 z2 => g4 a j (by omega)), ?_, ?_, k37⟩
          · rw [gr 28 0 (by decide) (fun y => absurd y (by decide))]; exact h2.1
          · rw [gr 28 0 (by decide) (fun y => absurd y (by decide))]
            exact h2.2.mv h2.1 (fun a j z1 z2 => g a j (by omega) (by omega) (by omega) (by omega) (by omega) (by omega) (by omega) (by omega))
          · rw [eB, ← h4]
            exact rC_81 (fun a j z1 z2 => g0 a j z1 (by omega))
          · rw [gR2 0 1 (by decide) (by decide) (by decide), gN 0 1 (by decide) (by decide), y2.1 0 1 (by decide) (by decide) (by omega), gI_ss]; rfl
          · rw [← eM2, gI_sa (by decide)]; exact x5
          · rw [← eM2]
            by_cases ek : k = 0
            · subst ek
              rw [gI_ss, gI_sa (by decide), x2 2 0 (by decide) (by decide), ← eN, gI_sL, gI_ss, h9 0 (by decide)]
            · rw [gI_sa (show (2 : Nat) ≠ 117 by decide), gI_sj ek, x2 2 k (by omega) (by decide), x2 117 k (by omega) (by decide), gNM 2 k (by decide) (by decide) (by omega) (by omega) (fun _ => ek), gNM 117 k (by decide) (by decide) (by omega) (by omega) (by omega)]
              exact h9 k hk
          · rw [gR2 0 2 (by decide) (by decide) (by decide), ← eM2, gI_sa (by decide), x7, ← eN, gI_sL, gI_sa (by decide), gI_ss]
          · rw [gr 3 1 (by decide) (fun _ => by decide)]; exact q1
          · rw [gr 3 1 (by decide) (fun _ => by decide), gr 28 0 (by decide) (fun y => absurd y (by decide))]; exact q2
    | ok S' =>
      rw [hr] at hC
      obtain ⟨M', q', y1, y2, y3⟩ := hC
      obtain ⟨z1, z2, z3, z4, z5, z6, z7⟩ := id y2
      have rM : ∀ a j, a ≠ 27 → (a = 3 → j ≠ 7) → gR M' a j = gR M a j := fun a j w1 w2 => z7.2.1 a j w1 w2
      generalize e9 : sR (sR (sI M' 0 2 (-1)) 3 1 (gR M 28 0)) 28 0 (gR M 3 1) = M9
      obtain ⟨N1, b1', b2', b3'⟩ := become_ok (M := M9) (x := 81) (y := 21) (by decide) (by decide) (by decide)
      have c9 : ∀ a j, (a = 0 → j ≠ 2) → gI M9 a j = gI M' a j := fun a j w => by rw [← e9, gI_sR, gI_sR, gI_sI, if_neg (fun y => w y.1 y.2)]
      refine ⟨0, sI (sI (sI N1 91 0 0) 93 0 0) 0 11 0, ?_, fun u => ?_⟩
      · rw [y1, b2_s, if_pos rfl, pu_s, pu_s, gR_sI, rM 3 1 (by decide) (fun _ => by decide), ck_t q1, pu_s, gR_sI, rM 28 0 (by decide) (fun y => absurd y (by decide)), ck_t h2.1, pu_s, pu_s, e9, b1', b1_s, pu_s, pu_s, pu_s]
      · generalize eN : sL (sI (sI (sI N1 91 0 0) 93 0 0) 0 11 0) 144 0 u = N
        have gN : ∀ a j, (a = 0 → j ≠ 2 ∧ j ≠ 11) → (a = 91 ∨ a = 93 → j ≠ 0) → (a < 81 ∨ 85 < a) → a ≠ 46 → a ≠ 47 → a ≠ 48 → gI N a j = gI M' a j := fun a j w1 w2 w3 w4 w5 w6 => by
          rw [← eN, gI_sL, gI_sI, if_neg (fun y => (w1 y.1).2 y.2), gI_sI, if_neg (fun y => w2 (Or.inr y.1) y.2), gI_sI, if_neg (fun y => w2 (Or.inl y.1) y.2), b3'.1 a j w3 w4 w5 w6, c9 a j (fun y => (w1 y).1)]
        have gNM : ∀ a j, a ≠ 3 → (a < 21 ∨ 27 < a) → (a < gR M 3 1 ∨ gR M 3 1 + 16 < a) → (a = 0 → j ≠ 1 ∧ j ≠ 2 ∧ j ≠ 11) → (a = 91 ∨ a = 93 → j ≠ 0) → (a < 81 ∨ 85 < a) → a ≠ 46 → a ≠ 47 → a ≠ 48 → gI N a j = gI M a j := fun a j w1 w2 w3 w4 w5 w6 w7 w8 w9 => by
          rw [gN a j (fun y => (w4 y).2) w5 w6 w7 w8 w9, z7.1 a j w1 w2 w3, gI_sI, if_neg (fun y => (w4 y.1).1 y.2)]
        have hm := prsM (c := tpc M) (N := N) hn hLn ((gNM 103 21 (by decide) (by decide) (by omega) (by decide) (by decide) (by decide) (by decide) (by decide) (by decide)).trans t2) (fun i hi => ⟨(hc i hi).1, (gNM 116 i (by decide) (by decide) (by omega) (fun y => absurd y (by decide)) (fun y => by omega) (by decide) (by decide) (by decide) (by decide)).trans (hc i hi).2.1⟩)
        rw [hr] at hm
        obtain ⟨R, M0, q2', x1, ⟨x2, x3, x4, x5⟩, x6, -, x7⟩ := hm
        obtain ⟨M2, m1, ⟨m2, m3, m4, m5, m6, m7, m8⟩, ⟨v1, v2, v3⟩, ⟨k1, k2, k3, k4, k5, k6, k7, k8, k9, k10, k11, k12⟩, r1, r2, r3⟩ := endM x6.2.2.2.1
        refine ⟨M2, S'.1, x1.trans m1, ?_, (r2 103 0 (fun _ => by decide) (by decide) (by decide)).trans x4⟩
        obtain ⟨⟨o1, o2, o3, o4, o5, o6⟩, ⟨p1, p2, p3, p4, p5⟩, top, w1, w2, w3, w4⟩ := x6.2.2.2.2.1
        have hq2 := x6.2.2.1
        obtain ⟨iA, iR, -⟩ := id y3
        obtain ⟨d0, d1, d2, d3, d4, d5, d6, -⟩ := id iA
        have gc : ∀ a j, a ≤ 102 → gI M2 a j = gI N a j := fun a j w => (r2 a j (by omega) (by omega) (by omega)).trans (x2 a j (by omega) (by omega))
        have e2 : M2.2.2 = N.2.2 := by rw [r3]; exact x3
        have eR : ∀ a j, gR M2 a j = gR M9 a j := fun a j => by
          have : gR M2 a j = gR N1 a j := by
            unfold gR
            rw [e2, ← eN]
            rfl
          rw [this]
          unfold gR
          rw [b3'.2]
        have g281 : gR M2 28 0 = gR M 3 1 := by rw [eR, ← e9, gR_sR, if_pos ⟨rfl, rfl⟩]
        have g31 : gR M2 3 1 = gR M 28 0 := by rw [eR, ← e9, gR_sR, if_neg (by decide), gR_sR, if_pos ⟨rfl, rfl⟩]
        have g37 : gR M2 3 7 = gR M' 3 7 := by rw [eR, ← e9, gR_sR, if_neg (by decide), gR_sR, if_neg (by decide), gR_sI]
        have erB : rB M2 0 = S'.2.1 := by
          rw [← x6.2.2.2.2.2.1]
          funext j
          unfold rB rA
          by_cases hj : j < 31
          · rw [if_pos hj, if_pos hj, Nat.zero_add, r1 j hj]
          · rw [if_neg hj, if_neg hj]
        have h700 : ∀ i, i < 2 → (aC S'.1 i).length ≤ 700 := fun i hi => by
          obtain ⟨⟨s, -, -, u3, -⟩, ⟨s', -, -, u3', -⟩, -⟩ := z4.2.2
          rcases (by omega : i = 0 ∨ i = 1) with e | e <;> subst e <;> omega
        refine ⟨iA, ⟨by rw [g281]; exact q1, ?_⟩, ⟨m2.trans o1, m3.trans o2, m4.trans o3, m5.trans o4, m6.trans o5, (k5 0 (by decide)).trans (o6 0 (by decide)), (k5 1 (by decide)).trans (o6 1 (by decide)), fun d hd => ?_, fun i hi => ?_, fun i hi => ?_, fun i hi => ?_, fun i hi => ?_, ruleN_M w3 (by omega) m7 k12, ruleN_M w4 (by omega) m8 k12, h700⟩, ?_, ?_, ⟨0, by decide, ?_, ?_, fun i hi => absurd hi (Nat.not_lt_zero i)⟩, ⟨0, by decide, ?_, ?_, fun i hi => absurd hi (Nat.not_lt_zero i)⟩, ⟨0, by decide, ?_, ?_, fun i hi => absurd hi (Nat.not_lt_zero i)⟩, fun k hk => ?_, ?_, Or.inl ⟨?_, v3⟩, ?_, ?_, ?_⟩
        · rw [g281]
          exact (landQ_C hp (by omega) z4).mv q1 (fun a j w1 w2 => by rw [gc a j (by omega)]; exact gN a j (by omega) (by omega) (by omega) (by omega) (by omega) (by omega))
        · rw [k1 d (by omega), k2 d (by omega), k3 d (by omega), k4 d (by omega)]; exact p1 d hd
        · rw [k6 i (by omega)]; exact p2 i hi
        · rw [k7 i (by omega)]; exact p3 i hi
        · rw [k8 i (by omega), k9 i (by omega)]; exact p4 i hi
        · rw [k10 i (by omega), k11 i (by omega)]; exact p5 i hi
        · rw [erB, ← z5, ← rC_21 (M := M') (M' := M9) (fun a j w1 w2 => c9 a j (by omega)), ← b2']
          exact rC_81 (fun a j w1 w2 => by rw [gc a j (by omega), ← eN, gI_sL, gI_sa (by omega), gI_sa (by omega), gI_sa (by omega)])
        · rw [erB]
          refine ⟨0, by decide, ?_, iR⟩
          obtain ⟨k, hk, e⟩ := iR.2.2.2.1
          rw [e, show k = 0 by omega]
        · rw [gc 91 0 (by decide), ← eN, gI_sL, gI_sa (by decide), gI_sa (by decide), gI_ss]; rfl
        · rw [v1]; rfl
        · rw [gc 93 0 (by decide), ← eN, gI_sL, gI_sa (by decide), gI_ss]; rfl
        · rw [v2]; rfl
        · rw [gc 0 1 (by decide), gN 0 1 (by decide) (by decide) (by decide) (by decide) (by decide) (by decide), z7.1 0 1 (by decide) (by decide) (by omega), gI_ss]; rfl
        · rw [r2 103 21 (fun _ => by decide) (by decide) (by decide), x5]; rfl
        · rw [gc 2 k (by decide), r2 117 k (fun y => absurd y (by decide)) (by decide) (by decide), x2 117 k (fun y => absurd y (by decide)) (by decide), gNM 2 k (by decide) (by decide) (by omega) (by omega) (by omega) (by decide) (by decide) (by decide) (by decide), gNM 117 k (by decide) (by decide) (by omega) (by omega) (by omega) (by decide) (by decide) (by decide) (by decide)]
          exact h9 k hk
        · rw [gc 0 2 (by decide), r2 103 23 (fun _ => by decide) (by decide) (by decide), x7, ← eN, gI_sL, gI_sj (by decide), gI_sa (by decide), gI_sa (by decide), b3'.1 0 2 (by decide) (by decide) (by decide) (by decide), ← e9, gI_sR, gI_sR, gI_ss]
        · rw [gc 0 11 (by decide), ← eN, gI_sL, gI_ss]
        · rw [g31]; exact h2.1
        · rw [g31, g281]; exact fun y => q2 y.symm
        · rw [g37]; exact z7.2.2 q3
